/-- the two systems' worlds side by side: the component's beside the reference's, and the other way round -/
def Gc (D : va_G) (cs : Nat → ClassId) (base : Nat) (K : (Nat → Nat) × (Nat → Nat) × Nat) (adM : Nat → Nat) (σM : St) : Gm := (D, cs, base, wl 20 adM (en YM cs adM σM), K)
def Gm2 (D : va_G) (cs : Nat → ClassId) (base : Nat) (K : (Nat → Nat) × (Nat → Nat) × Nat) (M : Nat) (adC : Nat → Nat) (σC : St) : Gm := (D, cs, base, wl M adC (en YC cs adC σC), K)
theorem va_P_swap {D : va_G} {cl : List vw_C} {a b : va_W} {H : Heap} (h : va_P D cl (a ++ b) H) : va_P D cl (b ++ a) H := by
  intro k q hk
  rcases List.mem_append.mp (List.mem_of_getElem? hk) with hm | hm
  · obtain ⟨i, hi⟩ := List.getElem?_of_mem (List.mem_append_right a hm)
    exact h i q hi
  · obtain ⟨i, hi⟩ := List.getElem?_of_mem (List.mem_append_left b hm)
    exact h i q hi
theorem va_D_swap {A : Nat → Prop} {a b : va_W} (h : va_D A (a ++ b)) : va_D A (b ++ a) := by
  have key : ∀ (k : Nat) (q : Nat × va_E), (b ++ a)[k]? = some q → (a ++ b)[if k < b.length then k + a.length else k - b.length]? = some q ∧ k < b.length + a.length := by
    intro k q hk
    have hl := (List.getElem?_eq_some_iff.mp hk).1
    rw [List.length_append] at hl
    by_cases hb : k < b.length
    · rw [List.getElem?_append_left hb] at hk
      rw [if_pos hb, List.getElem?_append_right (by omega), Nat.add_sub_cancel]
      exact ⟨hk, hl⟩
    · rw [List.getElem?_append_right (by omega)] at hk
      rw [if_neg hb, List.getElem?_append_left (by omega)]
      exact ⟨hk, hl⟩
  refine ⟨fun i j p q hi hj hpq => ?_, fun k q hk => h.2 _ q (key k q hk).1⟩
  obtain ⟨h1, l1⟩ := key i p hi
  obtain ⟨h2, l2⟩ := key j q hj
  have := h.1 _ _ p q h1 h2 hpq
  split at this <;> split at this <;> omega
section LAWR
variable {D : va_G} {cs : Nat → ClassId} {base : Nat} {K : (Nat → Nat) × (Nat → Nat) × Nat} {M : Nat} {ad adC adM : Nat → Nat} {σ σC σM : St} {Γ : Gm} {b L : Nat} {xs : Nat → Int32} {p : Program} {l : Launch} {e : Env} {R : Room} {s : State} {m : MethodId} {args : Array Value} {below : List Frame} {meth : Method} {c : Code} {H : Heap} {locs : List Loc} {cells slots : Nat} {Q : State → Prop} {cc : ByteArray} {pc nL : Nat} {ls : Array Slot} {rest st : List Value} {own : String} {Y : Sy}
theorem WH_swap (hw : WH (Gc D cs base K adM σM) YC M adC σC s H locs) : WH (Gm2 D cs base K M adC σC) YM 20 adM σM s H locs := ⟨va_P_swap hw.1, va_D_swap hw.2.1, hw.2.2⟩
theorem WH_swap2 (hw : WH (Gm2 D cs base K M adC σC) YM 20 adM σM s H locs) : WH (Gc D cs base K adM σM) YC M adC σC s H locs := ⟨va_P_swap hw.1, va_D_swap hw.2.1, hw.2.2⟩
theorem CX_swap (hc : CX (Gc D cs base K adM σM) p s m args meth c cc own nL) : CX (Gm2 D cs base K M adC σC) p s m args meth c cc own nL := hc
theorem g_scr {k i : Nat} {x : Int32} (hc : CX Γ p s m args meth c cc own nL) (hS : va_S (fun q => Γ.2.2.1 ≤ q) s.heap H locs) (hX : va_X b L xs s s.heap) (hbl : b < s.heap.size) (hbA : b < Γ.2.2.1) (hi : i + k < L) (hL : L ≤ 3584) (hx : x = nI (i + k)) (hdg : decode cc pc = .ok (.iaload, 1))
    (kk : W p l e R s m args below meth c H locs cells slots Q (F0 m (pc + 1) ls (.int (xs (i + k)) :: rest))) : W p l e R s m args below meth c H locs cells slots Q (F0 m pc ls (.int x :: .ref b :: rest)) := by
  subst hx
  have e1 : (nI (i + k)).toNatClampNeg = i + k := nI_clamp (by omega)
  refine va_sld (A := fun q => Γ.2.2.1 ≤ q) hc.1 hc.2.1 hX hbl (by omega) hS (vp_in_nI hi (by omega)) hdg ?_
  rw [e1]
  exact kk
theorem lg_same (x : Int64) : lg_cmp x x = 0 := by
  unfold lg_cmp
  rw [if_neg (by intro h; exact absurd h (Int64.lt_irrefl)), if_pos rfl]
theorem g_Vim {ci N index o n mx k mc ms : Nat} {C : String} {T : u_T} {y : MethodName} {b : ByteArray} {ret : Option FieldType} {As : List Value} {post : Int32 → St → Prop} (hcl : vwCl[ci]? = some (C, T, N)) (hci : ci < 20) (hwd : VW own index C y b mx ret n) (hR : 2 * k + 4 + 1 ≤ R.frames ∧ 8 + (mx + 11) + 60 * (k + 1) ≤ R.locals ∧ cells + mc ≤ R.cells ∧ slots + ms ≤ R.slots)
    (hc : CX Γ p s m args meth c cc own nL) (hw : WH Γ Y M ad σ s H locs) (hl : ls.size = nL) (ho : o < M) (hkd : Y.1 o = ci) (hM : Ci l Γ Y M ad σ y b mx ret k mc ms (.ref (ad o) :: As) post) (hn : As.length = n) (hst : st = As.reverse ++ .ref (ad o) :: rest) (hs : (rest.map fun v => v.category).sum ≤ 8) (hdg : decode cc pc = .ok (.invokevirtual index, 3))
    (kk : ∀ (r : Int32) (u : St) (H1 : Heap) (locs1 : List Loc), post r u → WH Γ Y M ad u s H1 locs1 → W p l e R s m args below meth c H1 locs1 (cells + mc) (slots + ms) Q (F0 m (pc + 3) ls (.int r :: rest))) : W p l e R s m args below meth c H locs cells slots Q (F0 m pc ls st) := by
  subst hst
  exact va_calli (va_runV (As := As) (rest := rest) ⟨hc.1, hc.2.1, hc.2.2.1, hc.2.2.2.1, hc.2.2.2.2.1⟩ hM (cwV n hc.2.2.2.2.1 hwd.good rfl rfl rfl hwd.2.2.2.2.2 ⟨hR.1, hR.2.1⟩) ⟨fun a U g mk q => ⟨q.1, q.2.calling g mk a⟩, va_recv hc.2.2.2.2.2.2.1 hw.1 hcl (wl_get ho (en_ob hkd hci)), fun U hU hW => ⟨rfl, hw.wc hc hU hW⟩⟩ rfl hn hl rfl (lv_room hs) hdg ⟨hR.2.2.1, hR.2.2.2⟩) hw.2.2 (fun q _ h => h) (fun q h => h) (fun r u t H1 locs1 ht hvm hp hB _ _ hS => kk r u H1 locs1 hp (hB.wh ht hS))
theorem g_Vtx {index : Nat} {ret : Option FieldType} {post : Int32 → St → Nat → Prop} (hwd : VW own index RX6 yX6_text cX6_text 2 ret 0) (hR : 309 ≤ R.frames ∧ 9201 ≤ R.locals ∧ cells + 2 ≤ R.cells ∧ slots + 163 ≤ R.slots)
    (hc : CX Γ p s m args meth c cc own nL) (hw : WH Γ YC M ad σ s H locs) (hl : ls.size = nL) (ho : 0 < M) (hM : Met l yX6_text (Cond.code yX6_text cX6_text 2 ret :: TB) (rmL 152 2 163) (va_Pc [.ref (ad 0)] (WC Γ YC M ad σ)) (QTX Γ M ad post) 2 163 (AA Γ)) (hs : (rest.map fun v => v.category).sum ≤ 8) (hdg : decode cc pc = .ok (.invokevirtual index, 3))
    (kk : ∀ (r : Int32) (u : St) (M1 : Nat) (ad1 : Nat → Nat) (H1 : Heap) (locs1 : List Loc), M ≤ M1 → post r u M1 → (∀ o, o < M → ad1 o = ad o) → WH Γ YC M1 ad1 u s H1 locs1 → W p l e R s m args below meth c H1 locs1 (cells + 2) (slots + 163) Q (F0 m (pc + 3) ls (.int r :: rest))) : W p l e R s m args below meth c H locs cells slots Q (F0 m pc ls (.ref (ad 0) :: rest)) := by
  refine va_calli (va_runV (As := []) (rest := rest) ⟨hc.1, hc.2.1, hc.2.2.1, hc.2.2.2.1, hc.2.2.2.2.1⟩ hM (cwV 0 hc.2.2.2.2.1 hwd.good rfl rfl rfl hwd.2.2.2.2.2 ⟨hR.1, hR.2.1⟩) ⟨fun a U g mk q => ⟨q.1, q.2.calling g mk a⟩, va_recv hc.2.2.2.2.2.2.1 hw.1 (ci := 6) rfl (wl_get ho (en_ob rfl (by decide))), fun U hU hW => ⟨rfl, hw.wc hc hU hW⟩⟩ rfl rfl hl rfl (lv_room hs) hdg ⟨hR.2.2.1, hR.2.2.2⟩) hw.2.2 (fun q _ h => h) (fun q h => h) (fun r u t H1 locs1 ht hvm hp hB _ _ hS => ?_)
  obtain ⟨u, M1, ad1⟩ := u
  exact kk r u M1 ad1 H1 locs1 hp.1 hp.2 hB.1 (hB.2.wh ht hS)
end LAWR

theorem q_516 : Cond.methodLink RL 13 yX6_cheese ∈ TB := TB_at 516 (by decide +kernel) rfl
set_option maxRecDepth 100000 in
theorem q_519 : Cond.code yX6_cheese cX6_cheese 8 (Option.some Jvm.ClassFile.FieldType.int) ∈ TB := TB_at 519 rfl rfl
theorem q_517 : Cond.instanceMethod yX6_cheese ∈ TB := TB_at 517 (by decide +kernel) rfl
theorem q_518 : Cond.selects RX6 yX6_cheese yX6_cheese ∈ TB := TB_at 518 (by decide +kernel) rfl
theorem vw_L_13 : VW RL 13 RX6 yX6_cheese cX6_cheese 8 (Option.some Jvm.ClassFile.FieldType.int) 5 := ⟨q_516, q_517, q_518, q_75, q_519, by decide +kernel⟩
theorem q_1072 : Cond.methodLink RL 17 yX7_cheese ∈ TB := TB_at 1072 (by decide +kernel) rfl
set_option maxRecDepth 100000 in
theorem q_1075 : Cond.code yX7_cheese cX7_cheese 8 (Option.some Jvm.ClassFile.FieldType.int) ∈ TB := TB_at 1075 rfl rfl
theorem q_1073 : Cond.instanceMethod yX7_cheese ∈ TB := TB_at 1073 (by decide +kernel) rfl
theorem q_1074 : Cond.selects RX7 yX7_cheese yX7_cheese ∈ TB := TB_at 1074 (by decide +kernel) rfl
theorem vw_L_17 : VW RL 17 RX7 yX7_cheese cX7_cheese 8 (Option.some Jvm.ClassFile.FieldType.int) 5 := ⟨q_1072, q_1073, q_1074, q_89, q_1075, by decide +kernel⟩
set_option maxHeartbeats 4000000 in
set_option maxRecDepth 20000 in
theorem lc_0 {D : va_G} {cs : Nat → ClassId} {base : Nat} {K : (Nat → Nat) × (Nat → Nat) × Nat} {RR : Nat → St → St → Prop} {b L : Nat} {xs : Nat → Int32} {p : Program} {l : Launch} {e : Env} {s : State} {m : MethodId} {args : Array Value} {below : List Frame} {meth : Method} {c : Code} {Q : State → Prop} (hop : ∀ (M : Nat) (σC σM : St) (a1 a2 a3 a4 a5 : Int32) , 53 ≤ M → RR M σC σM → w_X6_cheese M (fun r u => w_X7_cheese 20 (fun r2 u2 => r = r2 ∧ RR M u u2) a1 a2 a3 a4 a5 σM) a1 a2 a3 a4 a5 σC) (M : Nat) (adC adM : Nat → Nat) (σC σM : St) (H : Heap) (locs : List Loc) (ls : Array Slot) (cells slots i : Nat) (hM : 53 ≤ M) (hR : RR M σC σM) (hc : CX (Gc D cs base K adM σM) p s m args meth c cL_law RL 4) (hw : WH (Gc D cs base K adM σM) YC M adC σC s H locs) (hX : va_X b L xs s s.heap) (hbl : b < s.heap.size) (hbA : b < base) (hi : i + 7 ≤ L) (hL : L ≤ 3584) (hl : lv_has ls 4 [(0, .ref b), (1, .ref (adC 0)), (2, .ref (adM 0)), (3, .int (nI i))]) (hcs : cells + 2 ≤ room_1.cells ∧ slots + 170 ≤ room_1.slots)
    (cont : ∀ (M' : Nat) (adC' : Nat → Nat) (σC' σM' : St) (H : Heap) (locs : List Loc) (ls : Array Slot), 53 ≤ M' → RR M' σC' σM' → WH (Gc D cs base K adM σM') YC M' adC' σC' s H locs → lv_has ls 4 [(0, .ref b), (1, .ref (adC' 0)), (2, .ref (adM 0)), (3, .int (nI i))] → W p l e room_1 s m args below meth c H locs (cells + 2) (slots + 170) Q (F0 m 1577 ls [])) :
    W p l e room_1 s m args below meth c H locs cells slots Q (F0 m 216 ls []) := by
  have hx := hc.1
  have hb := hc.2.1
  refine lv_aload_n hx hb dL_law_216 rfl (lv_at hl 1 rfl) ?_
  refine lv_aload_n hx hb dL_law_217 rfl (lv_at hl 0 rfl) ?_
  refine lv_iload_n hx hb dL_law_218 rfl (lv_at hl 3 rfl) ?_
  refine lv_iconst (v := 1) hx hb dL_law_219 (by decide) ?_
  refine lv_iadd hx hb dL_law_220 ?_
  refine g_scr (k := 1) (i := i) hc hw.2.2 hX hbl hbA (by omega) (by omega) (by rw [← nI_add]; rfl) dL_law_221 ?_
  refine lv_aload_n hx hb dL_law_222 rfl (lv_at hl 0 rfl) ?_
  refine lv_iload_n hx hb dL_law_223 rfl (lv_at hl 3 rfl) ?_
  refine lv_iconst (v := 2) hx hb dL_law_224 (by decide) ?_
  refine lv_iadd hx hb dL_law_225 ?_
  refine g_scr (k := 2) (i := i) hc hw.2.2 hX hbl hbA (by omega) (by omega) (by rw [← nI_add]; rfl) dL_law_226 ?_
  refine lv_aload_n hx hb dL_law_227 rfl (lv_at hl 0 rfl) ?_
  refine lv_iload_n hx hb dL_law_228 rfl (lv_at hl 3 rfl) ?_
  refine lv_iconst (v := 3) hx hb dL_law_229 (by decide) ?_
  refine lv_iadd hx hb dL_law_230 ?_
  refine g_scr (k := 3) (i := i) hc hw.2.2 hX hbl hbA (by omega) (by omega) (by rw [← nI_add]; rfl) dL_law_231 ?_
  refine lv_aload_n hx hb dL_law_232 rfl (lv_at hl 0 rfl) ?_
  refine lv_iload_n hx hb dL_law_233 rfl (lv_at hl 3 rfl) ?_
  refine lv_iconst (v := 4) hx hb dL_law_234 (by decide) ?_
  refine lv_iadd hx hb dL_law_235 ?_
  refine g_scr (k := 4) (i := i) hc hw.2.2 hX hbl hbA (by omega) (by omega) (by rw [← nI_add]; rfl) dL_law_236 ?_
  refine lv_aload_n hx hb dL_law_237 rfl (lv_at hl 0 rfl) ?_
  refine lv_iload_n hx hb dL_law_238 rfl (lv_at hl 3 rfl) ?_
  refine lv_iconst (v := 5) hx hb dL_law_239 (by decide) ?_
  refine lv_iadd hx hb dL_law_240 ?_
  refine g_scr (k := 5) (i := i) hc hw.2.2 hX hbl hbA (by omega) (by omega) (by rw [← nI_add]; rfl) dL_law_241 ?_
  refine g_Vi (Γ := Gc D cs base K adM σM) (Y := YC) (ci := 6) (n := 5) (k := 2) (As := [.int (xs (i + 1)), .int (xs (i + 2)), .int (xs (i + 3)), .int (xs (i + 4)), .int (xs (i + 5))]) (rest := []) rfl (by decide) vw_L_13 ⟨Nat.le_of_ble_eq_true rfl, Nat.le_of_ble_eq_true rfl, (Nat.le_trans (Nat.le_add_right cells 2) hcs.1), (Nat.le_trans (Nat.le_add_right slots 170) hcs.2)⟩ hc hw hl.1 (by omega) rfl (m_X6_cheese l hM (xs (i + 1)) (xs (i + 2)) (xs (i + 3)) (xs (i + 4)) (xs (i + 5)) σC (hop M σC σM (xs (i + 1)) (xs (i + 2)) (xs (i + 3)) (xs (i + 4)) (xs (i + 5)) hM hR)) rfl rfl (Nat.le_of_ble_eq_true rfl) dL_law_242 (fun r1 u1 H locs h hw => ?_)
  replace hw := WH_swap hw
  have hc2 := CX_swap (M := M) (adC := adC) (σC := u1) hc
  refine lv_aload_n hx hb dL_law_245 rfl (lv_at hl 2 rfl) ?_
  refine lv_aload_n hx hb dL_law_246 rfl (lv_at hl 0 rfl) ?_
  refine lv_iload_n hx hb dL_law_247 rfl (lv_at hl 3 rfl) ?_
  refine lv_iconst (v := 1) hx hb dL_law_248 (by decide) ?_
  refine lv_iadd hx hb dL_law_249 ?_
  refine g_scr (k := 1) (i := i) hc2 hw.2.2 hX hbl hbA (by omega) (by omega) (by rw [← nI_add]; rfl) dL_law_250 ?_
  refine lv_aload_n hx hb dL_law_251 rfl (lv_at hl 0 rfl) ?_
  refine lv_iload_n hx hb dL_law_252 rfl (lv_at hl 3 rfl) ?_
  refine lv_iconst (v := 2) hx hb dL_law_253 (by decide) ?_
  refine lv_iadd hx hb dL_law_254 ?_
  refine g_scr (k := 2) (i := i) hc2 hw.2.2 hX hbl hbA (by omega) (by omega) (by rw [← nI_add]; rfl) dL_law_255 ?_
  refine lv_aload_n hx hb dL_law_256 rfl (lv_at hl 0 rfl) ?_
  refine lv_iload_n hx hb dL_law_257 rfl (lv_at hl 3 rfl) ?_
  refine lv_iconst (v := 3) hx hb dL_law_258 (by decide) ?_
  refine lv_iadd hx hb dL_law_259 ?_
  refine g_scr (k := 3) (i := i) hc2 hw.2.2 hX hbl hbA (by omega) (by omega) (by rw [← nI_add]; rfl) dL_law_260 ?_
  refine lv_aload_n hx hb dL_law_261 rfl (lv_at hl 0 rfl) ?_
  refine lv_iload_n hx hb dL_law_262 rfl (lv_at hl 3 rfl) ?_
  refine lv_iconst (v := 4) hx hb dL_law_263 (by decide) ?_
  refine lv_iadd hx hb dL_law_264 ?_
  refine g_scr (k := 4) (i := i) hc2 hw.2.2 hX hbl hbA (by omega) (by omega) (by rw [← nI_add]; rfl) dL_law_265 ?_
  refine lv_aload_n hx hb dL_law_266 rfl (lv_at hl 0 rfl) ?_
  refine lv_iload_n hx hb dL_law_267 rfl (lv_at hl 3 rfl) ?_
  refine lv_iconst (v := 5) hx hb dL_law_268 (by decide) ?_
  refine lv_iadd hx hb dL_law_269 ?_
  refine g_scr (k := 5) (i := i) hc2 hw.2.2 hX hbl hbA (by omega) (by omega) (by rw [← nI_add]; rfl) dL_law_270 ?_
  refine g_Vim (Γ := Gm2 D cs base K M adC u1) (Y := YM) (ci := 7) (n := 5) (k := 2) (mc := 1) (ms := 5) (As := [.int (xs (i + 1)), .int (xs (i + 2)), .int (xs (i + 3)), .int (xs (i + 4)), .int (xs (i + 5))]) (rest := [.int r1]) rfl (by decide) vw_L_17 ⟨Nat.le_of_ble_eq_true rfl, Nat.le_of_ble_eq_true rfl, Nat.le_trans (by omega) hcs.1, Nat.le_trans (by omega) hcs.2⟩ hc2 hw hl.1 (by decide) rfl (m_X7_cheese l (xs (i + 1)) (xs (i + 2)) (xs (i + 3)) (xs (i + 4)) (xs (i + 5)) σM h) rfl rfl (Nat.le_of_ble_eq_true rfl) dL_law_271 (fun r2 u2 H locs h hw => ?_)
  obtain ⟨hrr, hR2⟩ := h
  subst hrr
  replace hw := WH_swap2 hw
  refine lv_icmp_eq (tgt := 1577) hx hb dL_law_274 (by decide) (fun _ => ?_) (fun c => absurd rfl c)
  refine W.widen (k := cells + 2) (n := slots + 170) (by omega) (by omega) ?_
  exact cont M adC u1 u2 _ _ _ hM hR2 hw hl
theorem q_534 : Cond.methodLink RL 18 yX6_ripen ∈ TB := TB_at 534 (by decide +kernel) rfl
set_option maxRecDepth 100000 in
theorem q_537 : Cond.code yX6_ripen cX6_ripen 6 (Option.some Jvm.ClassFile.FieldType.int) ∈ TB := TB_at 537 rfl rfl
theorem q_535 : Cond.instanceMethod yX6_ripen ∈ TB := TB_at 535 (by decide +kernel) rfl
theorem q_536 : Cond.selects RX6 yX6_ripen yX6_ripen ∈ TB := TB_at 536 (by decide +kernel) rfl
theorem vw_L_18 : VW RL 18 RX6 yX6_ripen cX6_ripen 6 (Option.some Jvm.ClassFile.FieldType.int) 3 := ⟨q_534, q_535, q_536, q_75, q_537, by decide +kernel⟩
theorem q_1083 : Cond.methodLink RL 22 yX7_ripen ∈ TB := TB_at 1083 (by decide +kernel) rfl
set_option maxRecDepth 100000 in
theorem q_1086 : Cond.code yX7_ripen cX7_ripen 5 (Option.some Jvm.ClassFile.FieldType.int) ∈ TB := TB_at 1086 rfl rfl
theorem q_1084 : Cond.instanceMethod yX7_ripen ∈ TB := TB_at 1084 (by decide +kernel) rfl
theorem q_1085 : Cond.selects RX7 yX7_ripen yX7_ripen ∈ TB := TB_at 1085 (by decide +kernel) rfl
theorem vw_L_22 : VW RL 22 RX7 yX7_ripen cX7_ripen 5 (Option.some Jvm.ClassFile.FieldType.int) 3 := ⟨q_1083, q_1084, q_1085, q_89, q_1086, by decide +kernel⟩
set_option maxHeartbeats 4000000 in
set_option maxRecDepth 20000 in
theorem lc_1 {D : va_G} {cs : Nat → ClassId} {base : Nat} {K : (Nat → Nat) × (Nat → Nat) × Nat} {RR : Nat → St → St → Prop} {b L : Nat} {xs : Nat → Int32} {p : Program} {l : Launch} {e : Env} {s : State} {m : MethodId} {args : Array Value} {below : List Frame} {meth : Method} {c : Code} {Q : State → Prop} (hop : ∀ (M : Nat) (σC σM : St) (a1 a2 a3 : Int32) , 53 ≤ M → RR M σC σM → w_X6_ripen M (fun r u => w_X7_ripen 20 (fun r2 u2 => r = r2 ∧ RR M u u2) a1 a2 a3 σM) a1 a2 a3 σC) (M : Nat) (adC adM : Nat → Nat) (σC σM : St) (H : Heap) (locs : List Loc) (ls : Array Slot) (cells slots i : Nat) (hM : 53 ≤ M) (hR : RR M σC σM) (hc : CX (Gc D cs base K adM σM) p s m args meth c cL_law RL 4) (hw : WH (Gc D cs base K adM σM) YC M adC σC s H locs) (hX : va_X b L xs s s.heap) (hbl : b < s.heap.size) (hbA : b < base) (hi : i + 7 ≤ L) (hL : L ≤ 3584) (hl : lv_has ls 4 [(0, .ref b), (1, .ref (adC 0)), (2, .ref (adM 0)), (3, .int (nI i))]) (hcs : cells + 2 ≤ room_1.cells ∧ slots + 170 ≤ room_1.slots)
    (cont : ∀ (M' : Nat) (adC' : Nat → Nat) (σC' σM' : St) (H : Heap) (locs : List Loc) (ls : Array Slot), 53 ≤ M' → RR M' σC' σM' → WH (Gc D cs base K adM σM') YC M' adC' σC' s H locs → lv_has ls 4 [(0, .ref b), (1, .ref (adC' 0)), (2, .ref (adM 0)), (3, .int (nI i))] → W p l e room_1 s m args below meth c H locs (cells + 2) (slots + 170) Q (F0 m 1577 ls [])) :
    W p l e room_1 s m args below meth c H locs cells slots Q (F0 m 279 ls []) := by
  have hx := hc.1
  have hb := hc.2.1
  refine lv_aload_n hx hb dL_law_279 rfl (lv_at hl 1 rfl) ?_
  refine lv_aload_n hx hb dL_law_280 rfl (lv_at hl 0 rfl) ?_
  refine lv_iload_n hx hb dL_law_281 rfl (lv_at hl 3 rfl) ?_
  refine lv_iconst (v := 1) hx hb dL_law_282 (by decide) ?_
  refine lv_iadd hx hb dL_law_283 ?_
  refine g_scr (k := 1) (i := i) hc hw.2.2 hX hbl hbA (by omega) (by omega) (by rw [← nI_add]; rfl) dL_law_284 ?_
  refine lv_aload_n hx hb dL_law_285 rfl (lv_at hl 0 rfl) ?_
  refine lv_iload_n hx hb dL_law_286 rfl (lv_at hl 3 rfl) ?_
  refine lv_iconst (v := 2) hx hb dL_law_287 (by decide) ?_
  refine lv_iadd hx hb dL_law_288 ?_
  refine g_scr (k := 2) (i := i) hc hw.2.2 hX hbl hbA (by omega) (by omega) (by rw [← nI_add]; rfl) dL_law_289 ?_
  refine lv_aload_n hx hb dL_law_290 rfl (lv_at hl 0 rfl) ?_
  refine lv_iload_n hx hb dL_law_291 rfl (lv_at hl 3 rfl) ?_
  refine lv_iconst (v := 3) hx hb dL_law_292 (by decide) ?_
  refine lv_iadd hx hb dL_law_293 ?_
  refine g_scr (k := 3) (i := i) hc hw.2.2 hX hbl hbA (by omega) (by omega) (by rw [← nI_add]; rfl) dL_law_294 ?_
  refine g_Vi (Γ := Gc D cs base K adM σM) (Y := YC) (ci := 6) (n := 3) (k := 2) (As := [.int (xs (i + 1)), .int (xs (i + 2)), .int (xs (i + 3))]) (rest := []) rfl (by decide) vw_L_18 ⟨Nat.le_of_ble_eq_true rfl, Nat.le_of_ble_eq_true rfl, (Nat.le_trans (Nat.le_add_right cells 2) hcs.1), (Nat.le_trans (Nat.le_add_right slots 170) hcs.2)⟩ hc hw hl.1 (by omega) rfl (m_X6_ripen l hM (xs (i + 1)) (xs (i + 2)) (xs (i + 3)) σC (hop M σC σM (xs (i + 1)) (xs (i + 2)) (xs (i + 3)) hM hR)) rfl rfl (Nat.le_of_ble_eq_true rfl) dL_law_295 (fun r1 u1 H locs h hw => ?_)
  replace hw := WH_swap hw
  have hc2 := CX_swap (M := M) (adC := adC) (σC := u1) hc
  refine lv_aload_n hx hb dL_law_298 rfl (lv_at hl 2 rfl) ?_
  refine lv_aload_n hx hb dL_law_299 rfl (lv_at hl 0 rfl) ?_
  refine lv_iload_n hx hb dL_law_300 rfl (lv_at hl 3 rfl) ?_
  refine lv_iconst (v := 1) hx hb dL_law_301 (by decide) ?_
  refine lv_iadd hx hb dL_law_302 ?_
  refine g_scr (k := 1) (i := i) hc2 hw.2.2 hX hbl hbA (by omega) (by omega) (by rw [← nI_add]; rfl) dL_law_303 ?_
  refine lv_aload_n hx hb dL_law_304 rfl (lv_at hl 0 rfl) ?_
  refine lv_iload_n hx hb dL_law_305 rfl (lv_at hl 3 rfl) ?_
  refine lv_iconst (v := 2) hx hb dL_law_306 (by decide) ?_
  refine lv_iadd hx hb dL_law_307 ?_
  refine g_scr (k := 2) (i := i) hc2 hw.2.2 hX hbl hbA (by omega) (by omega) (by rw [← nI_add]; rfl) dL_law_308 ?_
  refine lv_aload_n hx hb dL_law_309 rfl (lv_at hl 0 rfl) ?_
  refine lv_iload_n hx hb dL_law_310 rfl (lv_at hl 3 rfl) ?_
  refine lv_iconst (v := 3) hx hb dL_law_311 (by decide) ?_
  refine lv_iadd hx hb dL_law_312 ?_
  refine g_scr (k := 3) (i := i) hc2 hw.2.2 hX hbl hbA (by omega) (by omega) (by rw [← nI_add]; rfl) dL_law_313 ?_
  refine g_Vi (Γ := Gm2 D cs base K M adC u1) (Y := YM) (ci := 7) (n := 3) (k := 2) (As := [.int (xs (i + 1)), .int (xs (i + 2)), .int (xs (i + 3))]) (rest := [.int r1]) rfl (by decide) vw_L_22 ⟨Nat.le_of_ble_eq_true rfl, Nat.le_of_ble_eq_true rfl, (Nat.le_trans (Nat.le_add_right cells 2) hcs.1), (Nat.le_trans (Nat.le_add_right slots 170) hcs.2)⟩ hc2 hw hl.1 (by decide) rfl (m_X7_ripen l (Nat.le_refl 20) (xs (i + 1)) (xs (i + 2)) (xs (i + 3)) σM h) rfl rfl (Nat.le_of_ble_eq_true rfl) dL_law_314 (fun r2 u2 H locs h hw => ?_)
  obtain ⟨hrr, hR2⟩ := h
  subst hrr
  replace hw := WH_swap2 hw
  refine lv_icmp_eq (tgt := 1577) hx hb dL_law_317 (by decide) (fun _ => ?_) (fun c => absurd rfl c)
  refine W.widen (k := cells + 2) (n := slots + 170) (by omega) (by omega) ?_
  exact cont M adC u1 u2 _ _ _ hM hR2 hw hl
theorem q_542 : Cond.methodLink RL 23 yX6_sortTold ∈ TB := TB_at 542 (by decide +kernel) rfl
set_option maxRecDepth 100000 in
theorem q_545 : Cond.code yX6_sortTold cX6_sortTold 4 (Option.some Jvm.ClassFile.FieldType.int) ∈ TB := TB_at 545 rfl rfl
theorem q_543 : Cond.instanceMethod yX6_sortTold ∈ TB := TB_at 543 (by decide +kernel) rfl
theorem q_544 : Cond.selects RX6 yX6_sortTold yX6_sortTold ∈ TB := TB_at 544 (by decide +kernel) rfl
theorem vw_L_23 : VW RL 23 RX6 yX6_sortTold cX6_sortTold 4 (Option.some Jvm.ClassFile.FieldType.int) 2 := ⟨q_542, q_543, q_544, q_75, q_545, by decide +kernel⟩
theorem q_1092 : Cond.methodLink RL 27 yX7_sortTold ∈ TB := TB_at 1092 (by decide +kernel) rfl
set_option maxRecDepth 100000 in
theorem q_1095 : Cond.code yX7_sortTold cX7_sortTold 3 (Option.some Jvm.ClassFile.FieldType.int) ∈ TB := TB_at 1095 rfl rfl
theorem q_1093 : Cond.instanceMethod yX7_sortTold ∈ TB := TB_at 1093 (by decide +kernel) rfl
theorem q_1094 : Cond.selects RX7 yX7_sortTold yX7_sortTold ∈ TB := TB_at 1094 (by decide +kernel) rfl
theorem vw_L_27 : VW RL 27 RX7 yX7_sortTold cX7_sortTold 3 (Option.some Jvm.ClassFile.FieldType.int) 2 := ⟨q_1092, q_1093, q_1094, q_89, q_1095, by decide +kernel⟩
set_option maxHeartbeats 4000000 in
set_option maxRecDepth 20000 in
theorem lc_2 {D : va_G} {cs : Nat → ClassId} {base : Nat} {K : (Nat → Nat) × (Nat → Nat) × Nat} {RR : Nat → St → St → Prop} {b L : Nat} {xs : Nat → Int32} {p : Program} {l : Launch} {e : Env} {s : State} {m : MethodId} {args : Array Value} {below : List Frame} {meth : Method} {c : Code} {Q : State → Prop} (hop : ∀ (M : Nat) (σC σM : St) (a1 a2 : Int32) , 53 ≤ M → RR M σC σM → w_X6_sortTold M (fun r u => w_X7_sortTold 20 (fun r2 u2 => r = r2 ∧ RR M u u2) a1 a2 σM) a1 a2 σC) (M : Nat) (adC adM : Nat → Nat) (σC σM : St) (H : Heap) (locs : List Loc) (ls : Array Slot) (cells slots i : Nat) (hM : 53 ≤ M) (hR : RR M σC σM) (hc : CX (Gc D cs base K adM σM) p s m args meth c cL_law RL 4) (hw : WH (Gc D cs base K adM σM) YC M adC σC s H locs) (hX : va_X b L xs s s.heap) (hbl : b < s.heap.size) (hbA : b < base) (hi : i + 7 ≤ L) (hL : L ≤ 3584) (hl : lv_has ls 4 [(0, .ref b), (1, .ref (adC 0)), (2, .ref (adM 0)), (3, .int (nI i))]) (hcs : cells + 2 ≤ room_1.cells ∧ slots + 170 ≤ room_1.slots)
    (cont : ∀ (M' : Nat) (adC' : Nat → Nat) (σC' σM' : St) (H : Heap) (locs : List Loc) (ls : Array Slot), 53 ≤ M' → RR M' σC' σM' → WH (Gc D cs base K adM σM') YC M' adC' σC' s H locs → lv_has ls 4 [(0, .ref b), (1, .ref (adC' 0)), (2, .ref (adM 0)), (3, .int (nI i))] → W p l e room_1 s m args below meth c H locs (cells + 2) (slots + 170) Q (F0 m 1577 ls [])) :
    W p l e room_1 s m args below meth c H locs cells slots Q (F0 m 322 ls []) := by
  have hx := hc.1
  have hb := hc.2.1
  refine lv_aload_n hx hb dL_law_322 rfl (lv_at hl 1 rfl) ?_
  refine lv_aload_n hx hb dL_law_323 rfl (lv_at hl 0 rfl) ?_
  refine lv_iload_n hx hb dL_law_324 rfl (lv_at hl 3 rfl) ?_
  refine lv_iconst (v := 1) hx hb dL_law_325 (by decide) ?_
  refine lv_iadd hx hb dL_law_326 ?_
  refine g_scr (k := 1) (i := i) hc hw.2.2 hX hbl hbA (by omega) (by omega) (by rw [← nI_add]; rfl) dL_law_327 ?_
  refine lv_aload_n hx hb dL_law_328 rfl (lv_at hl 0 rfl) ?_
  refine lv_iload_n hx hb dL_law_329 rfl (lv_at hl 3 rfl) ?_
  refine lv_iconst (v := 2) hx hb dL_law_330 (by decide) ?_
  refine lv_iadd hx hb dL_law_331 ?_
  refine g_scr (k := 2) (i := i) hc hw.2.2 hX hbl hbA (by omega) (by omega) (by rw [← nI_add]; rfl) dL_law_332 ?_
  refine g_Vi (Γ := Gc D cs base K adM σM) (Y := YC) (ci := 6) (n := 2) (k := 2) (As := [.int (xs (i + 1)), .int (xs (i + 2))]) (rest := []) rfl (by decide) vw_L_23 ⟨Nat.le_of_ble_eq_true rfl, Nat.le_of_ble_eq_true rfl, (Nat.le_trans (Nat.le_add_right cells 2) hcs.1), (Nat.le_trans (Nat.le_add_right slots 170) hcs.2)⟩ hc hw hl.1 (by omega) rfl (m_X6_sortTold l hM (xs (i + 1)) (xs (i + 2)) σC (hop M σC σM (xs (i + 1)) (xs (i + 2)) hM hR)) rfl rfl (Nat.le_of_ble_eq_true rfl) dL_law_333 (fun r1 u1 H locs h hw => ?_)
  replace hw := WH_swap hw
  have hc2 := CX_swap (M := M) (adC := adC) (σC := u1) hc
  refine lv_aload_n hx hb dL_law_336 rfl (lv_at hl 2 rfl) ?_
  refine lv_aload_n hx hb dL_law_337 rfl (lv_at hl 0 rfl) ?_
  refine lv_iload_n hx hb dL_law_338 rfl (lv_at hl 3 rfl) ?_
  refine lv_iconst (v := 1) hx hb dL_law_339 (by decide) ?_
  refine lv_iadd hx hb dL_law_340 ?_
  refine g_scr (k := 1) (i := i) hc2 hw.2.2 hX hbl hbA (by omega) (by omega) (by rw [← nI_add]; rfl) dL_law_341 ?_
  refine lv_aload_n hx hb dL_law_342 rfl (lv_at hl 0 rfl) ?_
  refine lv_iload_n hx hb dL_law_343 rfl (lv_at hl 3 rfl) ?_
  refine lv_iconst (v := 2) hx hb dL_law_344 (by decide) ?_
  refine lv_iadd hx hb dL_law_345 ?_
  refine g_scr (k := 2) (i := i) hc2 hw.2.2 hX hbl hbA (by omega) (by omega) (by rw [← nI_add]; rfl) dL_law_346 ?_
  refine g_Vi (Γ := Gm2 D cs base K M adC u1) (Y := YM) (ci := 7) (n := 2) (k := 2) (As := [.int (xs (i + 1)), .int (xs (i + 2))]) (rest := [.int r1]) rfl (by decide) vw_L_27 ⟨Nat.le_of_ble_eq_true rfl, Nat.le_of_ble_eq_true rfl, (Nat.le_trans (Nat.le_add_right cells 2) hcs.1), (Nat.le_trans (Nat.le_add_right slots 170) hcs.2)⟩ hc2 hw hl.1 (by decide) rfl (m_X7_sortTold l (Nat.le_refl 20) (xs (i + 1)) (xs (i + 2)) σM h) rfl rfl (Nat.le_of_ble_eq_true rfl) dL_law_347 (fun r2 u2 H locs h hw => ?_)
  obtain ⟨hrr, hR2⟩ := h
  subst hrr
  replace hw := WH_swap2 hw
  refine lv_icmp_eq (tgt := 1577) hx hb dL_law_350 (by decide) (fun _ => ?_) (fun c => absurd rfl c)
  refine W.widen (k := cells + 2) (n := slots + 170) (by omega) (by omega) ?_
  exact cont M adC u1 u2 _ _ _ hM hR2 hw hl
theorem q_547 : Cond.methodLink RL 28 yX6_set ∈ TB := TB_at 547 (by decide +kernel) rfl
set_option maxRecDepth 100000 in
theorem q_550 : Cond.code yX6_set cX6_set 4 (Option.some Jvm.ClassFile.FieldType.int) ∈ TB := TB_at 550 rfl rfl
theorem q_548 : Cond.instanceMethod yX6_set ∈ TB := TB_at 548 (by decide +kernel) rfl
theorem q_549 : Cond.selects RX6 yX6_set yX6_set ∈ TB := TB_at 549 (by decide +kernel) rfl
theorem vw_L_28 : VW RL 28 RX6 yX6_set cX6_set 4 (Option.some Jvm.ClassFile.FieldType.int) 2 := ⟨q_547, q_548, q_549, q_75, q_550, by decide +kernel⟩
theorem q_1096 : Cond.methodLink RL 31 yX7_set ∈ TB := TB_at 1096 (by decide +kernel) rfl
set_option maxRecDepth 100000 in
theorem q_1099 : Cond.code yX7_set cX7_set 4 (Option.some Jvm.ClassFile.FieldType.int) ∈ TB := TB_at 1099 rfl rfl
theorem q_1097 : Cond.instanceMethod yX7_set ∈ TB := TB_at 1097 (by decide +kernel) rfl
theorem q_1098 : Cond.selects RX7 yX7_set yX7_set ∈ TB := TB_at 1098 (by decide +kernel) rfl
theorem vw_L_31 : VW RL 31 RX7 yX7_set cX7_set 4 (Option.some Jvm.ClassFile.FieldType.int) 2 := ⟨q_1096, q_1097, q_1098, q_89, q_1099, by decide +kernel⟩
set_option maxHeartbeats 4000000 in
set_option maxRecDepth 20000 in
theorem lc_3 {D : va_G} {cs : Nat → ClassId} {base : Nat} {K : (Nat → Nat) × (Nat → Nat) × Nat} {RR : Nat → St → St → Prop} {b L : Nat} {xs : Nat → Int32} {p : Program} {l : Launch} {e : Env} {s : State} {m : MethodId} {args : Array Value} {below : List Frame} {meth : Method} {c : Code} {Q : State → Prop} (hop : ∀ (M : Nat) (σC σM : St) (a1 a2 : Int32) , 53 ≤ M → RR M σC σM → w_X6_set M (fun r u => w_X7_set 20 (fun r2 u2 => r = r2 ∧ RR M u u2) a1 a2 σM) a1 a2 σC) (M : Nat) (adC adM : Nat → Nat) (σC σM : St) (H : Heap) (locs : List Loc) (ls : Array Slot) (cells slots i : Nat) (hM : 53 ≤ M) (hR : RR M σC σM) (hc : CX (Gc D cs base K adM σM) p s m args meth c cL_law RL 4) (hw : WH (Gc D cs base K adM σM) YC M adC σC s H locs) (hX : va_X b L xs s s.heap) (hbl : b < s.heap.size) (hbA : b < base) (hi : i + 7 ≤ L) (hL : L ≤ 3584) (hl : lv_has ls 4 [(0, .ref b), (1, .ref (adC 0)), (2, .ref (adM 0)), (3, .int (nI i))]) (hcs : cells + 2 ≤ room_1.cells ∧ slots + 170 ≤ room_1.slots)
    (cont : ∀ (M' : Nat) (adC' : Nat → Nat) (σC' σM' : St) (H : Heap) (locs : List Loc) (ls : Array Slot), 53 ≤ M' → RR M' σC' σM' → WH (Gc D cs base K adM σM') YC M' adC' σC' s H locs → lv_has ls 4 [(0, .ref b), (1, .ref (adC' 0)), (2, .ref (adM 0)), (3, .int (nI i))] → W p l e room_1 s m args below meth c H locs (cells + 2) (slots + 170) Q (F0 m 1577 ls [])) :
    W p l e room_1 s m args below meth c H locs cells slots Q (F0 m 355 ls []) := by
  have hx := hc.1
  have hb := hc.2.1
  refine lv_aload_n hx hb dL_law_355 rfl (lv_at hl 1 rfl) ?_
  refine lv_aload_n hx hb dL_law_356 rfl (lv_at hl 0 rfl) ?_
  refine lv_iload_n hx hb dL_law_357 rfl (lv_at hl 3 rfl) ?_
  refine lv_iconst (v := 1) hx hb dL_law_358 (by decide) ?_
  refine lv_iadd hx hb dL_law_359 ?_
  refine g_scr (k := 1) (i := i) hc hw.2.2 hX hbl hbA (by omega) (by omega) (by rw [← nI_add]; rfl) dL_law_360 ?_
  refine lv_aload_n hx hb dL_law_361 rfl (lv_at hl 0 rfl) ?_
  refine lv_iload_n hx hb dL_law_362 rfl (lv_at hl 3 rfl) ?_
  refine lv_iconst (v := 2) hx hb dL_law_363 (by decide) ?_
  refine lv_iadd hx hb dL_law_364 ?_
  refine g_scr (k := 2) (i := i) hc hw.2.2 hX hbl hbA (by omega) (by omega) (by rw [← nI_add]; rfl) dL_law_365 ?_
  refine g_Vi (Γ := Gc D cs base K adM σM) (Y := YC) (ci := 6) (n := 2) (k := 0) (As := [.int (xs (i + 1)), .int (xs (i + 2))]) (rest := []) rfl (by decide) vw_L_28 ⟨Nat.le_of_ble_eq_true rfl, Nat.le_of_ble_eq_true rfl, (Nat.le_trans (Nat.le_add_right cells 2) hcs.1), (Nat.le_trans (Nat.le_add_right slots 170) hcs.2)⟩ hc hw hl.1 (by omega) rfl (m_X6_set l hM (xs (i + 1)) (xs (i + 2)) σC (hop M σC σM (xs (i + 1)) (xs (i + 2)) hM hR)) rfl rfl (Nat.le_of_ble_eq_true rfl) dL_law_366 (fun r1 u1 H locs h hw => ?_)
  replace hw := WH_swap hw
  have hc2 := CX_swap (M := M) (adC := adC) (σC := u1) hc
  refine lv_aload_n hx hb dL_law_369 rfl (lv_at hl 2 rfl) ?_
  refine lv_aload_n hx hb dL_law_370 rfl (lv_at hl 0 rfl) ?_
  refine lv_iload_n hx hb dL_law_371 rfl (lv_at hl 3 rfl) ?_
  refine lv_iconst (v := 1) hx hb dL_law_372 (by decide) ?_
  refine lv_iadd hx hb dL_law_373 ?_
  refine g_scr (k := 1) (i := i) hc2 hw.2.2 hX hbl hbA (by omega) (by omega) (by rw [← nI_add]; rfl) dL_law_374 ?_
  refine lv_aload_n hx hb dL_law_375 rfl (lv_at hl 0 rfl) ?_
  refine lv_iload_n hx hb dL_law_376 rfl (lv_at hl 3 rfl) ?_
  refine lv_iconst (v := 2) hx hb dL_law_377 (by decide) ?_
  refine lv_iadd hx hb dL_law_378 ?_
  refine g_scr (k := 2) (i := i) hc2 hw.2.2 hX hbl hbA (by omega) (by omega) (by rw [← nI_add]; rfl) dL_law_379 ?_
  refine g_Vi (Γ := Gm2 D cs base K M adC u1) (Y := YM) (ci := 7) (n := 2) (k := 1) (As := [.int (xs (i + 1)), .int (xs (i + 2))]) (rest := [.int r1]) rfl (by decide) vw_L_31 ⟨Nat.le_of_ble_eq_true rfl, Nat.le_of_ble_eq_true rfl, (Nat.le_trans (Nat.le_add_right cells 2) hcs.1), (Nat.le_trans (Nat.le_add_right slots 170) hcs.2)⟩ hc2 hw hl.1 (by decide) rfl (m_X7_set l (Nat.le_refl 20) (xs (i + 1)) (xs (i + 2)) σM h) rfl rfl (Nat.le_of_ble_eq_true rfl) dL_law_380 (fun r2 u2 H locs h hw => ?_)
  obtain ⟨hrr, hR2⟩ := h
  subst hrr
  replace hw := WH_swap2 hw
  refine lv_icmp_eq (tgt := 1577) hx hb dL_law_383 (by decide) (fun _ => ?_) (fun c => absurd rfl c)
  refine W.widen (k := cells + 2) (n := slots + 170) (by omega) (by omega) ?_
  exact cont M adC u1 u2 _ _ _ hM hR2 hw hl
theorem q_553 : Cond.methodLink RL 32 yX6_count ∈ TB := TB_at 553 (by decide +kernel) rfl
set_option maxRecDepth 100000 in
theorem q_556 : Cond.code yX6_count cX6_count 2 (Option.some Jvm.ClassFile.FieldType.int) ∈ TB := TB_at 556 rfl rfl
theorem q_554 : Cond.instanceMethod yX6_count ∈ TB := TB_at 554 (by decide +kernel) rfl
theorem q_555 : Cond.selects RX6 yX6_count yX6_count ∈ TB := TB_at 555 (by decide +kernel) rfl
theorem vw_L_32 : VW RL 32 RX6 yX6_count cX6_count 2 (Option.some Jvm.ClassFile.FieldType.int) 1 := ⟨q_553, q_554, q_555, q_75, q_556, by decide +kernel⟩
theorem q_1102 : Cond.methodLink RL 36 yX7_count ∈ TB := TB_at 1102 (by decide +kernel) rfl
set_option maxRecDepth 100000 in
theorem q_1105 : Cond.code yX7_count cX7_count 2 (Option.some Jvm.ClassFile.FieldType.int) ∈ TB := TB_at 1105 rfl rfl
theorem q_1103 : Cond.instanceMethod yX7_count ∈ TB := TB_at 1103 (by decide +kernel) rfl
theorem q_1104 : Cond.selects RX7 yX7_count yX7_count ∈ TB := TB_at 1104 (by decide +kernel) rfl
theorem vw_L_36 : VW RL 36 RX7 yX7_count cX7_count 2 (Option.some Jvm.ClassFile.FieldType.int) 1 := ⟨q_1102, q_1103, q_1104, q_89, q_1105, by decide +kernel⟩
set_option maxHeartbeats 4000000 in
set_option maxRecDepth 20000 in
theorem lc_4 {D : va_G} {cs : Nat → ClassId} {base : Nat} {K : (Nat → Nat) × (Nat → Nat) × Nat} {RR : Nat → St → St → Prop} {b L : Nat} {xs : Nat → Int32} {p : Program} {l : Launch} {e : Env} {s : State} {m : MethodId} {args : Array Value} {below : List Frame} {meth : Method} {c : Code} {Q : State → Prop} (hop : ∀ (M : Nat) (σC σM : St) (a1 : Int32) , 53 ≤ M → RR M σC σM → w_X6_count M (fun r u => w_X7_count 20 (fun r2 u2 => r = r2 ∧ RR M u u2) a1 σM) a1 σC) (M : Nat) (adC adM : Nat → Nat) (σC σM : St) (H : Heap) (locs : List Loc) (ls : Array Slot) (cells slots i : Nat) (hM : 53 ≤ M) (hR : RR M σC σM) (hc : CX (Gc D cs base K adM σM) p s m args meth c cL_law RL 4) (hw : WH (Gc D cs base K adM σM) YC M adC σC s H locs) (hX : va_X b L xs s s.heap) (hbl : b < s.heap.size) (hbA : b < base) (hi : i + 7 ≤ L) (hL : L ≤ 3584) (hl : lv_has ls 4 [(0, .ref b), (1, .ref (adC 0)), (2, .ref (adM 0)), (3, .int (nI i))]) (hcs : cells + 2 ≤ room_1.cells ∧ slots + 170 ≤ room_1.slots)
    (cont : ∀ (M' : Nat) (adC' : Nat → Nat) (σC' σM' : St) (H : Heap) (locs : List Loc) (ls : Array Slot), 53 ≤ M' → RR M' σC' σM' → WH (Gc D cs base K adM σM') YC M' adC' σC' s H locs → lv_has ls 4 [(0, .ref b), (1, .ref (adC' 0)), (2, .ref (adM 0)), (3, .int (nI i))] → W p l e room_1 s m args below meth c H locs (cells + 2) (slots + 170) Q (F0 m 1577 ls [])) :
    W p l e room_1 s m args below meth c H locs cells slots Q (F0 m 388 ls []) := by
  have hx := hc.1
  have hb := hc.2.1
  refine lv_aload_n hx hb dL_law_388 rfl (lv_at hl 1 rfl) ?_
  refine lv_aload_n hx hb dL_law_389 rfl (lv_at hl 0 rfl) ?_
  refine lv_iload_n hx hb dL_law_390 rfl (lv_at hl 3 rfl) ?_
  refine lv_iconst (v := 1) hx hb dL_law_391 (by decide) ?_
  refine lv_iadd hx hb dL_law_392 ?_
  refine g_scr (k := 1) (i := i) hc hw.2.2 hX hbl hbA (by omega) (by omega) (by rw [← nI_add]; rfl) dL_law_393 ?_
  refine g_Vi (Γ := Gc D cs base K adM σM) (Y := YC) (ci := 6) (n := 1) (k := 1) (As := [.int (xs (i + 1))]) (rest := []) rfl (by decide) vw_L_32 ⟨Nat.le_of_ble_eq_true rfl, Nat.le_of_ble_eq_true rfl, (Nat.le_trans (Nat.le_add_right cells 2) hcs.1), (Nat.le_trans (Nat.le_add_right slots 170) hcs.2)⟩ hc hw hl.1 (by omega) rfl (m_X6_count l hM (xs (i + 1)) σC (hop M σC σM (xs (i + 1)) hM hR)) rfl rfl (Nat.le_of_ble_eq_true rfl) dL_law_394 (fun r1 u1 H locs h hw => ?_)
  replace hw := WH_swap hw
  have hc2 := CX_swap (M := M) (adC := adC) (σC := u1) hc
  refine lv_aload_n hx hb dL_law_397 rfl (lv_at hl 2 rfl) ?_
  refine lv_aload_n hx hb dL_law_398 rfl (lv_at hl 0 rfl) ?_
  refine lv_iload_n hx hb dL_law_399 rfl (lv_at hl 3 rfl) ?_
  refine lv_iconst (v := 1) hx hb dL_law_400 (by decide) ?_
  refine lv_iadd hx hb dL_law_401 ?_
  refine g_scr (k := 1) (i := i) hc2 hw.2.2 hX hbl hbA (by omega) (by omega) (by rw [← nI_add]; rfl) dL_law_402 ?_
  refine g_Vi (Γ := Gm2 D cs base K M adC u1) (Y := YM) (ci := 7) (n := 1) (k := 0) (As := [.int (xs (i + 1))]) (rest := [.int r1]) rfl (by decide) vw_L_36 ⟨Nat.le_of_ble_eq_true rfl, Nat.le_of_ble_eq_true rfl, (Nat.le_trans (Nat.le_add_right cells 2) hcs.1), (Nat.le_trans (Nat.le_add_right slots 170) hcs.2)⟩ hc2 hw hl.1 (by decide) rfl (m_X7_count l (Nat.le_refl 20) (xs (i + 1)) σM h) rfl rfl (Nat.le_of_ble_eq_true rfl) dL_law_403 (fun r2 u2 H locs h hw => ?_)
  obtain ⟨hrr, hR2⟩ := h
  subst hrr
  replace hw := WH_swap2 hw
  refine lv_icmp_eq (tgt := 1577) hx hb dL_law_406 (by decide) (fun _ => ?_) (fun c => absurd rfl c)
  refine W.widen (k := cells + 2) (n := slots + 170) (by omega) (by omega) ?_
  exact cont M adC u1 u2 _ _ _ hM hR2 hw hl
theorem q_561 : Cond.methodLink RL 37 yX6_feed ∈ TB := TB_at 561 (by decide +kernel) rfl
set_option maxRecDepth 100000 in
theorem q_564 : Cond.code yX6_feed cX6_feed 8 (Option.some Jvm.ClassFile.FieldType.int) ∈ TB := TB_at 564 rfl rfl
theorem q_562 : Cond.instanceMethod yX6_feed ∈ TB := TB_at 562 (by decide +kernel) rfl
theorem q_563 : Cond.selects RX6 yX6_feed yX6_feed ∈ TB := TB_at 563 (by decide +kernel) rfl
theorem vw_L_37 : VW RL 37 RX6 yX6_feed cX6_feed 8 (Option.some Jvm.ClassFile.FieldType.int) 6 := ⟨q_561, q_562, q_563, q_75, q_564, by decide +kernel⟩
theorem q_1106 : Cond.methodLink RL 41 yX7_feed ∈ TB := TB_at 1106 (by decide +kernel) rfl
set_option maxRecDepth 100000 in
theorem q_1109 : Cond.code yX7_feed cX7_feed 9 (Option.some Jvm.ClassFile.FieldType.int) ∈ TB := TB_at 1109 rfl rfl
theorem q_1107 : Cond.instanceMethod yX7_feed ∈ TB := TB_at 1107 (by decide +kernel) rfl
theorem q_1108 : Cond.selects RX7 yX7_feed yX7_feed ∈ TB := TB_at 1108 (by decide +kernel) rfl
theorem vw_L_41 : VW RL 41 RX7 yX7_feed cX7_feed 9 (Option.some Jvm.ClassFile.FieldType.int) 6 := ⟨q_1106, q_1107, q_1108, q_89, q_1109, by decide +kernel⟩
set_option maxHeartbeats 4000000 in
set_option maxRecDepth 20000 in
theorem lc_5 {D : va_G} {cs : Nat → ClassId} {base : Nat} {K : (Nat → Nat) × (Nat → Nat) × Nat} {RR : Nat → St → St → Prop} {b L : Nat} {xs : Nat → Int32} {p : Program} {l : Launch} {e : Env} {s : State} {m : MethodId} {args : Array Value} {below : List Frame} {meth : Method} {c : Code} {Q : State → Prop} (hop : ∀ (M : Nat) (σC σM : St) (a1 a2 a3 a4 a5 a6 : Int32) , 53 ≤ M → RR M σC σM → w_X6_feed M (fun r u => w_X7_feed 20 (fun r2 u2 => r = r2 ∧ RR M u u2) a1 a2 a3 a4 a5 a6 σM) a1 a2 a3 a4 a5 a6 σC) (M : Nat) (adC adM : Nat → Nat) (σC σM : St) (H : Heap) (locs : List Loc) (ls : Array Slot) (cells slots i : Nat) (hM : 53 ≤ M) (hR : RR M σC σM) (hc : CX (Gc D cs base K adM σM) p s m args meth c cL_law RL 4) (hw : WH (Gc D cs base K adM σM) YC M adC σC s H locs) (hX : va_X b L xs s s.heap) (hbl : b < s.heap.size) (hbA : b < base) (hi : i + 7 ≤ L) (hL : L ≤ 3584) (hl : lv_has ls 4 [(0, .ref b), (1, .ref (adC 0)), (2, .ref (adM 0)), (3, .int (nI i))]) (hcs : cells + 2 ≤ room_1.cells ∧ slots + 170 ≤ room_1.slots)
    (cont : ∀ (M' : Nat) (adC' : Nat → Nat) (σC' σM' : St) (H : Heap) (locs : List Loc) (ls : Array Slot), 53 ≤ M' → RR M' σC' σM' → WH (Gc D cs base K adM σM') YC M' adC' σC' s H locs → lv_has ls 4 [(0, .ref b), (1, .ref (adC' 0)), (2, .ref (adM 0)), (3, .int (nI i))] → W p l e room_1 s m args below meth c H locs (cells + 2) (slots + 170) Q (F0 m 1577 ls [])) :
    W p l e room_1 s m args below meth c H locs cells slots Q (F0 m 411 ls []) := by
  have hx := hc.1
  have hb := hc.2.1
  refine lv_aload_n hx hb dL_law_411 rfl (lv_at hl 1 rfl) ?_
  refine lv_aload_n hx hb dL_law_412 rfl (lv_at hl 0 rfl) ?_
  refine lv_iload_n hx hb dL_law_413 rfl (lv_at hl 3 rfl) ?_
  refine lv_iconst (v := 1) hx hb dL_law_414 (by decide) ?_
  refine lv_iadd hx hb dL_law_415 ?_
  refine g_scr (k := 1) (i := i) hc hw.2.2 hX hbl hbA (by omega) (by omega) (by rw [← nI_add]; rfl) dL_law_416 ?_
  refine lv_aload_n hx hb dL_law_417 rfl (lv_at hl 0 rfl) ?_
  refine lv_iload_n hx hb dL_law_418 rfl (lv_at hl 3 rfl) ?_
  refine lv_iconst (v := 2) hx hb dL_law_419 (by decide) ?_
  refine lv_iadd hx hb dL_law_420 ?_
  refine g_scr (k := 2) (i := i) hc hw.2.2 hX hbl hbA (by omega) (by omega) (by rw [← nI_add]; rfl) dL_law_421 ?_
  refine lv_aload_n hx hb dL_law_422 rfl (lv_at hl 0 rfl) ?_
  refine lv_iload_n hx hb dL_law_423 rfl (lv_at hl 3 rfl) ?_
  refine lv_iconst (v := 3) hx hb dL_law_424 (by decide) ?_
  refine lv_iadd hx hb dL_law_425 ?_
  refine g_scr (k := 3) (i := i) hc hw.2.2 hX hbl hbA (by omega) (by omega) (by rw [← nI_add]; rfl) dL_law_426 ?_
  refine lv_aload_n hx hb dL_law_427 rfl (lv_at hl 0 rfl) ?_
  refine lv_iload_n hx hb dL_law_428 rfl (lv_at hl 3 rfl) ?_
  refine lv_iconst (v := 4) hx hb dL_law_429 (by decide) ?_
  refine lv_iadd hx hb dL_law_430 ?_
  refine g_scr (k := 4) (i := i) hc hw.2.2 hX hbl hbA (by omega) (by omega) (by rw [← nI_add]; rfl) dL_law_431 ?_
  refine lv_aload_n hx hb dL_law_432 rfl (lv_at hl 0 rfl) ?_
  refine lv_iload_n hx hb dL_law_433 rfl (lv_at hl 3 rfl) ?_
  refine lv_iconst (v := 5) hx hb dL_law_434 (by decide) ?_
  refine lv_iadd hx hb dL_law_435 ?_
  refine g_scr (k := 5) (i := i) hc hw.2.2 hX hbl hbA (by omega) (by omega) (by rw [← nI_add]; rfl) dL_law_436 ?_
  refine lv_aload_n hx hb dL_law_437 rfl (lv_at hl 0 rfl) ?_
  refine lv_iload_n hx hb dL_law_438 rfl (lv_at hl 3 rfl) ?_
  refine lv_bipush (v := 6) hx hb dL_law_439 (by decide) ?_
  refine lv_iadd hx hb dL_law_441 ?_
  refine g_scr (k := 6) (i := i) hc hw.2.2 hX hbl hbA (by omega) (by omega) (by rw [← nI_add]; rfl) dL_law_442 ?_
  refine g_Vi (Γ := Gc D cs base K adM σM) (Y := YC) (ci := 6) (n := 6) (k := 1) (As := [.int (xs (i + 1)), .int (xs (i + 2)), .int (xs (i + 3)), .int (xs (i + 4)), .int (xs (i + 5)), .int (xs (i + 6))]) (rest := []) rfl (by decide) vw_L_37 ⟨Nat.le_of_ble_eq_true rfl, Nat.le_of_ble_eq_true rfl, (Nat.le_trans (Nat.le_add_right cells 2) hcs.1), (Nat.le_trans (Nat.le_add_right slots 170) hcs.2)⟩ hc hw hl.1 (by omega) rfl (m_X6_feed l hM (xs (i + 1)) (xs (i + 2)) (xs (i + 3)) (xs (i + 4)) (xs (i + 5)) (xs (i + 6)) σC (hop M σC σM (xs (i + 1)) (xs (i + 2)) (xs (i + 3)) (xs (i + 4)) (xs (i + 5)) (xs (i + 6)) hM hR)) rfl rfl (Nat.le_of_ble_eq_true rfl) dL_law_443 (fun r1 u1 H locs h hw => ?_)
  replace hw := WH_swap hw
  have hc2 := CX_swap (M := M) (adC := adC) (σC := u1) hc
  refine lv_aload_n hx hb dL_law_446 rfl (lv_at hl 2 rfl) ?_
  refine lv_aload_n hx hb dL_law_447 rfl (lv_at hl 0 rfl) ?_
  refine lv_iload_n hx hb dL_law_448 rfl (lv_at hl 3 rfl) ?_
  refine lv_iconst (v := 1) hx hb dL_law_449 (by decide) ?_
  refine lv_iadd hx hb dL_law_450 ?_
  refine g_scr (k := 1) (i := i) hc2 hw.2.2 hX hbl hbA (by omega) (by omega) (by rw [← nI_add]; rfl) dL_law_451 ?_
  refine lv_aload_n hx hb dL_law_452 rfl (lv_at hl 0 rfl) ?_
  refine lv_iload_n hx hb dL_law_453 rfl (lv_at hl 3 rfl) ?_
  refine lv_iconst (v := 2) hx hb dL_law_454 (by decide) ?_
  refine lv_iadd hx hb dL_law_455 ?_
  refine g_scr (k := 2) (i := i) hc2 hw.2.2 hX hbl hbA (by omega) (by omega) (by rw [← nI_add]; rfl) dL_law_456 ?_
  refine lv_aload_n hx hb dL_law_457 rfl (lv_at hl 0 rfl) ?_
  refine lv_iload_n hx hb dL_law_458 rfl (lv_at hl 3 rfl) ?_
  refine lv_iconst (v := 3) hx hb dL_law_459 (by decide) ?_
  refine lv_iadd hx hb dL_law_460 ?_
  refine g_scr (k := 3) (i := i) hc2 hw.2.2 hX hbl hbA (by omega) (by omega) (by rw [← nI_add]; rfl) dL_law_461 ?_
  refine lv_aload_n hx hb dL_law_462 rfl (lv_at hl 0 rfl) ?_
  refine lv_iload_n hx hb dL_law_463 rfl (lv_at hl 3 rfl) ?_
  refine lv_iconst (v := 4) hx hb dL_law_464 (by decide) ?_
  refine lv_iadd hx hb dL_law_465 ?_
  refine g_scr (k := 4) (i := i) hc2 hw.2.2 hX hbl hbA (by omega) (by omega) (by rw [← nI_add]; rfl) dL_law_466 ?_
  refine lv_aload_n hx hb dL_law_467 rfl (lv_at hl 0 rfl) ?_
  refine lv_iload_n hx hb dL_law_468 rfl (lv_at hl 3 rfl) ?_
  refine lv_iconst (v := 5) hx hb dL_law_469 (by decide) ?_
  refine lv_iadd hx hb dL_law_470 ?_
  refine g_scr (k := 5) (i := i) hc2 hw.2.2 hX hbl hbA (by omega) (by omega) (by rw [← nI_add]; rfl) dL_law_471 ?_
  refine lv_aload_n hx hb dL_law_472 rfl (lv_at hl 0 rfl) ?_
  refine lv_iload_n hx hb dL_law_473 rfl (lv_at hl 3 rfl) ?_
  refine lv_bipush (v := 6) hx hb dL_law_474 (by decide) ?_
  refine lv_iadd hx hb dL_law_476 ?_
  refine g_scr (k := 6) (i := i) hc2 hw.2.2 hX hbl hbA (by omega) (by omega) (by rw [← nI_add]; rfl) dL_law_477 ?_
  refine g_Vim (Γ := Gm2 D cs base K M adC u1) (Y := YM) (ci := 7) (n := 6) (k := 2) (mc := 1) (ms := 5) (As := [.int (xs (i + 1)), .int (xs (i + 2)), .int (xs (i + 3)), .int (xs (i + 4)), .int (xs (i + 5)), .int (xs (i + 6))]) (rest := [.int r1]) rfl (by decide) vw_L_41 ⟨Nat.le_of_ble_eq_true rfl, Nat.le_of_ble_eq_true rfl, Nat.le_trans (by omega) hcs.1, Nat.le_trans (by omega) hcs.2⟩ hc2 hw hl.1 (by decide) rfl (m_X7_feed l (xs (i + 1)) (xs (i + 2)) (xs (i + 3)) (xs (i + 4)) (xs (i + 5)) (xs (i + 6)) σM h) rfl rfl (Nat.le_of_ble_eq_true rfl) dL_law_478 (fun r2 u2 H locs h hw => ?_)
  obtain ⟨hrr, hR2⟩ := h
  subst hrr
  replace hw := WH_swap2 hw
  refine lv_icmp_eq (tgt := 1577) hx hb dL_law_481 (by decide) (fun _ => ?_) (fun c => absurd rfl c)
  refine W.widen (k := cells + 2) (n := slots + 170) (by omega) (by omega) ?_
  exact cont M adC u1 u2 _ _ _ hM hR2 hw hl
theorem q_572 : Cond.methodLink RL 42 yX6_text ∈ TB := TB_at 572 (by decide +kernel) rfl
set_option maxRecDepth 100000 in
theorem q_575 : Cond.code yX6_text cX6_text 2 (Option.some Jvm.ClassFile.FieldType.int) ∈ TB := TB_at 575 rfl rfl
theorem q_573 : Cond.instanceMethod yX6_text ∈ TB := TB_at 573 (by decide +kernel) rfl
theorem q_574 : Cond.selects RX6 yX6_text yX6_text ∈ TB := TB_at 574 (by decide +kernel) rfl
theorem vw_L_42 : VW RL 42 RX6 yX6_text cX6_text 2 (Option.some Jvm.ClassFile.FieldType.int) 0 := ⟨q_572, q_573, q_574, q_75, q_575, by decide +kernel⟩
theorem q_1115 : Cond.methodLink RL 46 yX7_text ∈ TB := TB_at 1115 (by decide +kernel) rfl
set_option maxRecDepth 100000 in
theorem q_1118 : Cond.code yX7_text cX7_text 2 (Option.some Jvm.ClassFile.FieldType.int) ∈ TB := TB_at 1118 rfl rfl
theorem q_1116 : Cond.instanceMethod yX7_text ∈ TB := TB_at 1116 (by decide +kernel) rfl
theorem q_1117 : Cond.selects RX7 yX7_text yX7_text ∈ TB := TB_at 1117 (by decide +kernel) rfl
theorem vw_L_46 : VW RL 46 RX7 yX7_text cX7_text 2 (Option.some Jvm.ClassFile.FieldType.int) 0 := ⟨q_1115, q_1116, q_1117, q_89, q_1118, by decide +kernel⟩
set_option maxHeartbeats 4000000 in
set_option maxRecDepth 20000 in
theorem lc_6 {D : va_G} {cs : Nat → ClassId} {base : Nat} {K : (Nat → Nat) × (Nat → Nat) × Nat} {RR : Nat → St → St → Prop} {b L : Nat} {xs : Nat → Int32} {p : Program} {l : Launch} {e : Env} {s : State} {m : MethodId} {args : Array Value} {below : List Frame} {meth : Method} {c : Code} {Q : State → Prop} (hop : ∀ (M : Nat) (σC σM : St), 53 ≤ M → RR M σC σM → w_X6_text M (fun r u M1 => w_X7_text 20 (fun r2 u2 => r = r2 ∧ RR M1 u u2) σM) σC) (M : Nat) (adC adM : Nat → Nat) (σC σM : St) (H : Heap) (locs : List Loc) (ls : Array Slot) (cells slots i : Nat) (hM : 53 ≤ M) (hR : RR M σC σM) (hc : CX (Gc D cs base K adM σM) p s m args meth c cL_law RL 4) (hw : WH (Gc D cs base K adM σM) YC M adC σC s H locs) (hX : va_X b L xs s s.heap) (hbl : b < s.heap.size) (hbA : b < base) (hi : i + 7 ≤ L) (hL : L ≤ 3584) (hl : lv_has ls 4 [(0, .ref b), (1, .ref (adC 0)), (2, .ref (adM 0)), (3, .int (nI i))]) (hcs : cells + 2 ≤ room_1.cells ∧ slots + 170 ≤ room_1.slots)
    (cont : ∀ (M' : Nat) (adC' : Nat → Nat) (σC' σM' : St) (H : Heap) (locs : List Loc) (ls : Array Slot), 53 ≤ M' → RR M' σC' σM' → WH (Gc D cs base K adM σM') YC M' adC' σC' s H locs → lv_has ls 4 [(0, .ref b), (1, .ref (adC' 0)), (2, .ref (adM 0)), (3, .int (nI i))] → W p l e room_1 s m args below meth c H locs (cells + 2) (slots + 170) Q (F0 m 1577 ls [])) :
    W p l e room_1 s m args below meth c H locs cells slots Q (F0 m 486 ls []) := by
  have hx := hc.1
  have hb := hc.2.1
  refine lv_aload_n hx hb dL_law_486 rfl (lv_at hl 1 rfl) ?_
  refine g_Vtx (Γ := Gc D cs base K adM σM) (rest := []) vw_L_42 ⟨Nat.le_of_ble_eq_true rfl, Nat.le_of_ble_eq_true rfl, hcs.1, Nat.le_trans (by omega) hcs.2⟩ hc hw hl.1 (by omega) (m_X6_text l hM σC (hop M σC σM hM hR)) (Nat.le_of_ble_eq_true rfl) dL_law_487 (fun r1 u1 M1 ad1 H locs hM1 h hag hw => ?_)
  have hl : lv_has ls 4 [(0, .ref b), (1, .ref (ad1 0)), (2, .ref (adM 0)), (3, .int (nI i))] := by rw [hag 0 (by omega)]; exact hl
  replace hM : 53 ≤ M1 := by omega
  replace hw := WH_swap hw
  have hc2 := CX_swap (M := M1) (adC := ad1) (σC := u1) hc
  refine lv_aload_n hx hb dL_law_490 rfl (lv_at hl 2 rfl) ?_
  refine g_Vi (Γ := Gm2 D cs base K M1 ad1 u1) (Y := YM) (ci := 7) (n := 0) (k := 151) (As := []) (rest := [.int r1]) rfl (by decide) vw_L_46 ⟨Nat.le_of_ble_eq_true rfl, Nat.le_of_ble_eq_true rfl, (Nat.le_trans (by omega) hcs.1), (Nat.le_trans (by omega) hcs.2)⟩ hc2 hw hl.1 (by decide) rfl (m_X7_text l (Nat.le_refl 20)  σM h) rfl rfl (Nat.le_of_ble_eq_true rfl) dL_law_491 (fun r2 u2 H locs h hw => ?_)
  obtain ⟨hrr, hR2⟩ := h
  subst hrr
  replace hw := WH_swap2 hw
  refine lv_icmp_eq (tgt := 1577) hx hb dL_law_494 (by decide) (fun _ => ?_) (fun c => absurd rfl c)
  refine W.widen (k := cells + 2) (n := slots + 170) (by omega) (by omega) ?_
  exact cont M1 ad1 u1 u2 _ _ _ hM hR2 hw hl
theorem q_580 : Cond.methodLink RL 47 yX6_force ∈ TB := TB_at 580 (by decide +kernel) rfl
set_option maxRecDepth 100000 in
theorem q_583 : Cond.code yX6_force cX6_force 3 (Option.some Jvm.ClassFile.FieldType.int) ∈ TB := TB_at 583 rfl rfl
theorem q_581 : Cond.instanceMethod yX6_force ∈ TB := TB_at 581 (by decide +kernel) rfl
theorem q_582 : Cond.selects RX6 yX6_force yX6_force ∈ TB := TB_at 582 (by decide +kernel) rfl
theorem vw_L_47 : VW RL 47 RX6 yX6_force cX6_force 3 (Option.some Jvm.ClassFile.FieldType.int) 1 := ⟨q_580, q_581, q_582, q_75, q_583, by decide +kernel⟩
theorem q_1188 : Cond.methodLink RL 50 yX7_force ∈ TB := TB_at 1188 (by decide +kernel) rfl
set_option maxRecDepth 100000 in
theorem q_1191 : Cond.code yX7_force cX7_force 3 (Option.some Jvm.ClassFile.FieldType.int) ∈ TB := TB_at 1191 rfl rfl
theorem q_1189 : Cond.instanceMethod yX7_force ∈ TB := TB_at 1189 (by decide +kernel) rfl
theorem q_1190 : Cond.selects RX7 yX7_force yX7_force ∈ TB := TB_at 1190 (by decide +kernel) rfl
theorem vw_L_50 : VW RL 50 RX7 yX7_force cX7_force 3 (Option.some Jvm.ClassFile.FieldType.int) 1 := ⟨q_1188, q_1189, q_1190, q_89, q_1191, by decide +kernel⟩
set_option maxHeartbeats 4000000 in
set_option maxRecDepth 20000 in
theorem lc_7 {D : va_G} {cs : Nat → ClassId} {base : Nat} {K : (Nat → Nat) × (Nat → Nat) × Nat} {RR : Nat → St → St → Prop} {b L : Nat} {xs : Nat → Int32} {p : Program} {l : Launch} {e : Env} {s : State} {m : MethodId} {args : Array Value} {below : List Frame} {meth : Method} {c : Code} {Q : State → Prop} (hop : ∀ (M : Nat) (σC σM : St) (a1 : Int32) , 53 ≤ M → RR M σC σM → w_X6_force M (fun r u => w_X7_force 20 (fun r2 u2 => r = r2 ∧ RR M u u2) a1 σM) a1 σC) (M : Nat) (adC adM : Nat → Nat) (σC σM : St) (H : Heap) (locs : List Loc) (ls : Array Slot) (cells slots i : Nat) (hM : 53 ≤ M) (hR : RR M σC σM) (hc : CX (Gc D cs base K adM σM) p s m args meth c cL_law RL 4) (hw : WH (Gc D cs base K adM σM) YC M adC σC s H locs) (hX : va_X b L xs s s.heap) (hbl : b < s.heap.size) (hbA : b < base) (hi : i + 7 ≤ L) (hL : L ≤ 3584) (hl : lv_has ls 4 [(0, .ref b), (1, .ref (adC 0)), (2, .ref (adM 0)), (3, .int (nI i))]) (hcs : cells + 2 ≤ room_1.cells ∧ slots + 170 ≤ room_1.slots)
    (cont : ∀ (M' : Nat) (adC' : Nat → Nat) (σC' σM' : St) (H : Heap) (locs : List Loc) (ls : Array Slot), 53 ≤ M' → RR M' σC' σM' → WH (Gc D cs base K adM σM') YC M' adC' σC' s H locs → lv_has ls 4 [(0, .ref b), (1, .ref (adC' 0)), (2, .ref (adM 0)), (3, .int (nI i))] → W p l e room_1 s m args below meth c H locs (cells + 2) (slots + 170) Q (F0 m 1577 ls [])) :
    W p l e room_1 s m args below meth c H locs cells slots Q (F0 m 499 ls []) := by
  have hx := hc.1
  have hb := hc.2.1
  refine lv_aload_n hx hb dL_law_499 rfl (lv_at hl 1 rfl) ?_
  refine lv_aload_n hx hb dL_law_500 rfl (lv_at hl 0 rfl) ?_
  refine lv_iload_n hx hb dL_law_501 rfl (lv_at hl 3 rfl) ?_
  refine lv_iconst (v := 1) hx hb dL_law_502 (by decide) ?_
  refine lv_iadd hx hb dL_law_503 ?_
  refine g_scr (k := 1) (i := i) hc hw.2.2 hX hbl hbA (by omega) (by omega) (by rw [← nI_add]; rfl) dL_law_504 ?_
  refine g_Vi (Γ := Gc D cs base K adM σM) (Y := YC) (ci := 6) (n := 1) (k := 0) (As := [.int (xs (i + 1))]) (rest := []) rfl (by decide) vw_L_47 ⟨Nat.le_of_ble_eq_true rfl, Nat.le_of_ble_eq_true rfl, (Nat.le_trans (Nat.le_add_right cells 2) hcs.1), (Nat.le_trans (Nat.le_add_right slots 170) hcs.2)⟩ hc hw hl.1 (by omega) rfl (m_X6_force l hM (xs (i + 1)) σC (hop M σC σM (xs (i + 1)) hM hR)) rfl rfl (Nat.le_of_ble_eq_true rfl) dL_law_505 (fun r1 u1 H locs h hw => ?_)
  replace hw := WH_swap hw
  have hc2 := CX_swap (M := M) (adC := adC) (σC := u1) hc
  refine lv_aload_n hx hb dL_law_508 rfl (lv_at hl 2 rfl) ?_
  refine lv_aload_n hx hb dL_law_509 rfl (lv_at hl 0 rfl) ?_
  refine lv_iload_n hx hb dL_law_510 rfl (lv_at hl 3 rfl) ?_
  refine lv_iconst (v := 1) hx hb dL_law_511 (by decide) ?_
  refine lv_iadd hx hb dL_law_512 ?_
  refine g_scr (k := 1) (i := i) hc2 hw.2.2 hX hbl hbA (by omega) (by omega) (by rw [← nI_add]; rfl) dL_law_513 ?_
  refine g_Vi (Γ := Gm2 D cs base K M adC u1) (Y := YM) (ci := 7) (n := 1) (k := 1) (As := [.int (xs (i + 1))]) (rest := [.int r1]) rfl (by decide) vw_L_50 ⟨Nat.le_of_ble_eq_true rfl, Nat.le_of_ble_eq_true rfl, (Nat.le_trans (Nat.le_add_right cells 2) hcs.1), (Nat.le_trans (Nat.le_add_right slots 170) hcs.2)⟩ hc2 hw hl.1 (by decide) rfl (m_X7_force l (Nat.le_refl 20) (xs (i + 1)) σM h) rfl rfl (Nat.le_of_ble_eq_true rfl) dL_law_514 (fun r2 u2 H locs h hw => ?_)
  obtain ⟨hrr, hR2⟩ := h
  subst hrr
  replace hw := WH_swap2 hw
  refine lv_icmp_eq (tgt := 1577) hx hb dL_law_517 (by decide) (fun _ => ?_) (fun c => absurd rfl c)
  refine W.widen (k := cells + 2) (n := slots + 170) (by omega) (by omega) ?_
  exact cont M adC u1 u2 _ _ _ hM hR2 hw hl
theorem q_584 : Cond.methodLink RL 51 yX6_act ∈ TB := TB_at 584 (by decide +kernel) rfl
theorem vw_L_51 : VW RL 51 RX6 yX6_act cX6_act 5 (Option.some Jvm.ClassFile.FieldType.int) 3 := ⟨q_584, q_585, q_586, q_75, q_587, by decide +kernel⟩
theorem q_1192 : Cond.methodLink RL 54 yX7_act ∈ TB := TB_at 1192 (by decide +kernel) rfl
theorem vw_L_54 : VW RL 54 RX7 yX7_act cX7_act 4 (Option.some Jvm.ClassFile.FieldType.int) 3 := ⟨q_1192, q_1193, q_1194, q_89, q_1195, by decide +kernel⟩
set_option maxHeartbeats 4000000 in
set_option maxRecDepth 20000 in
theorem lc_8 {D : va_G} {cs : Nat → ClassId} {base : Nat} {K : (Nat → Nat) × (Nat → Nat) × Nat} {RR : Nat → St → St → Prop} {b L : Nat} {xs : Nat → Int32} {p : Program} {l : Launch} {e : Env} {s : State} {m : MethodId} {args : Array Value} {below : List Frame} {meth : Method} {c : Code} {Q : State → Prop} (hop : ∀ (M : Nat) (σC σM : St) (a1 a2 a3 : Int32) , 53 ≤ M → RR M σC σM → w_X6_act M (fun r u => w_X7_act 20 (fun r2 u2 => r = r2 ∧ RR M u u2) a1 a2 a3 σM) a1 a2 a3 σC) (M : Nat) (adC adM : Nat → Nat) (σC σM : St) (H : Heap) (locs : List Loc) (ls : Array Slot) (cells slots i : Nat) (hM : 53 ≤ M) (hR : RR M σC σM) (hc : CX (Gc D cs base K adM σM) p s m args meth c cL_law RL 4) (hw : WH (Gc D cs base K adM σM) YC M adC σC s H locs) (hX : va_X b L xs s s.heap) (hbl : b < s.heap.size) (hbA : b < base) (hi : i + 7 ≤ L) (hL : L ≤ 3584) (hl : lv_has ls 4 [(0, .ref b), (1, .ref (adC 0)), (2, .ref (adM 0)), (3, .int (nI i))]) (hcs : cells + 2 ≤ room_1.cells ∧ slots + 170 ≤ room_1.slots)
    (cont : ∀ (M' : Nat) (adC' : Nat → Nat) (σC' σM' : St) (H : Heap) (locs : List Loc) (ls : Array Slot), 53 ≤ M' → RR M' σC' σM' → WH (Gc D cs base K adM σM') YC M' adC' σC' s H locs → lv_has ls 4 [(0, .ref b), (1, .ref (adC' 0)), (2, .ref (adM 0)), (3, .int (nI i))] → W p l e room_1 s m args below meth c H locs (cells + 2) (slots + 170) Q (F0 m 1577 ls [])) :
    W p l e room_1 s m args below meth c H locs cells slots Q (F0 m 522 ls []) := by
  have hx := hc.1
  have hb := hc.2.1
  refine lv_aload_n hx hb dL_law_522 rfl (lv_at hl 1 rfl) ?_
  refine lv_aload_n hx hb dL_law_523 rfl (lv_at hl 0 rfl) ?_
  refine lv_iload_n hx hb dL_law_524 rfl (lv_at hl 3 rfl) ?_
  refine lv_iconst (v := 1) hx hb dL_law_525 (by decide) ?_
  refine lv_iadd hx hb dL_law_526 ?_
  refine g_scr (k := 1) (i := i) hc hw.2.2 hX hbl hbA (by omega) (by omega) (by rw [← nI_add]; rfl) dL_law_527 ?_
  refine lv_aload_n hx hb dL_law_528 rfl (lv_at hl 0 rfl) ?_
  refine lv_iload_n hx hb dL_law_529 rfl (lv_at hl 3 rfl) ?_
  refine lv_iconst (v := 2) hx hb dL_law_530 (by decide) ?_
  refine lv_iadd hx hb dL_law_531 ?_
  refine g_scr (k := 2) (i := i) hc hw.2.2 hX hbl hbA (by omega) (by omega) (by rw [← nI_add]; rfl) dL_law_532 ?_
  refine lv_aload_n hx hb dL_law_533 rfl (lv_at hl 0 rfl) ?_
  refine lv_iload_n hx hb dL_law_534 rfl (lv_at hl 3 rfl) ?_
  refine lv_iconst (v := 3) hx hb dL_law_535 (by decide) ?_
  refine lv_iadd hx hb dL_law_536 ?_
  refine g_scr (k := 3) (i := i) hc hw.2.2 hX hbl hbA (by omega) (by omega) (by rw [← nI_add]; rfl) dL_law_537 ?_
  refine g_Vi (Γ := Gc D cs base K adM σM) (Y := YC) (ci := 6) (n := 3) (k := 1) (As := [.int (xs (i + 1)), .int (xs (i + 2)), .int (xs (i + 3))]) (rest := []) rfl (by decide) vw_L_51 ⟨Nat.le_of_ble_eq_true rfl, Nat.le_of_ble_eq_true rfl, (Nat.le_trans (Nat.le_add_right cells 2) hcs.1), (Nat.le_trans (Nat.le_add_right slots 170) hcs.2)⟩ hc hw hl.1 (by omega) rfl (m_X6_act l hM (xs (i + 1)) (xs (i + 2)) (xs (i + 3)) σC (hop M σC σM (xs (i + 1)) (xs (i + 2)) (xs (i + 3)) hM hR)) rfl rfl (Nat.le_of_ble_eq_true rfl) dL_law_538 (fun r1 u1 H locs h hw => ?_)
  replace hw := WH_swap hw
  have hc2 := CX_swap (M := M) (adC := adC) (σC := u1) hc
  refine lv_aload_n hx hb dL_law_541 rfl (lv_at hl 2 rfl) ?_
  refine lv_aload_n hx hb dL_law_542 rfl (lv_at hl 0 rfl) ?_
  refine lv_iload_n hx hb dL_law_543 rfl (lv_at hl 3 rfl) ?_
  refine lv_iconst (v := 1) hx hb dL_law_544 (by decide) ?_
  refine lv_iadd hx hb dL_law_545 ?_
  refine g_scr (k := 1) (i := i) hc2 hw.2.2 hX hbl hbA (by omega) (by omega) (by rw [← nI_add]; rfl) dL_law_546 ?_
  refine lv_aload_n hx hb dL_law_547 rfl (lv_at hl 0 rfl) ?_
  refine lv_iload_n hx hb dL_law_548 rfl (lv_at hl 3 rfl) ?_
  refine lv_iconst (v := 2) hx hb dL_law_549 (by decide) ?_
  refine lv_iadd hx hb dL_law_550 ?_
  refine g_scr (k := 2) (i := i) hc2 hw.2.2 hX hbl hbA (by omega) (by omega) (by rw [← nI_add]; rfl) dL_law_551 ?_
  refine lv_aload_n hx hb dL_law_552 rfl (lv_at hl 0 rfl) ?_
  refine lv_iload_n hx hb dL_law_553 rfl (lv_at hl 3 rfl) ?_
  refine lv_iconst (v := 3) hx hb dL_law_554 (by decide) ?_
  refine lv_iadd hx hb dL_law_555 ?_
  refine g_scr (k := 3) (i := i) hc2 hw.2.2 hX hbl hbA (by omega) (by omega) (by rw [← nI_add]; rfl) dL_law_556 ?_
  refine g_Vi (Γ := Gm2 D cs base K M adC u1) (Y := YM) (ci := 7) (n := 3) (k := 1) (As := [.int (xs (i + 1)), .int (xs (i + 2)), .int (xs (i + 3))]) (rest := [.int r1]) rfl (by decide) vw_L_54 ⟨Nat.le_of_ble_eq_true rfl, Nat.le_of_ble_eq_true rfl, (Nat.le_trans (Nat.le_add_right cells 2) hcs.1), (Nat.le_trans (Nat.le_add_right slots 170) hcs.2)⟩ hc2 hw hl.1 (by decide) rfl (m_X7_act l (Nat.le_refl 20) (xs (i + 1)) (xs (i + 2)) (xs (i + 3)) σM h) rfl rfl (Nat.le_of_ble_eq_true rfl) dL_law_557 (fun r2 u2 H locs h hw => ?_)
  obtain ⟨hrr, hR2⟩ := h
  subst hrr
  replace hw := WH_swap2 hw
  refine lv_icmp_eq (tgt := 1577) hx hb dL_law_560 (by decide) (fun _ => ?_) (fun c => absurd rfl c)
  refine W.widen (k := cells + 2) (n := slots + 170) (by omega) (by omega) ?_
  exact cont M adC u1 u2 _ _ _ hM hR2 hw hl
theorem q_599 : Cond.methodLink RL 55 yX6_forget ∈ TB := TB_at 599 (by decide +kernel) rfl
set_option maxRecDepth 100000 in
theorem q_602 : Cond.code yX6_forget cX6_forget 1 (Option.some Jvm.ClassFile.FieldType.int) ∈ TB := TB_at 602 rfl rfl
theorem q_600 : Cond.instanceMethod yX6_forget ∈ TB := TB_at 600 (by decide +kernel) rfl
theorem q_601 : Cond.selects RX6 yX6_forget yX6_forget ∈ TB := TB_at 601 (by decide +kernel) rfl
theorem vw_L_55 : VW RL 55 RX6 yX6_forget cX6_forget 1 (Option.some Jvm.ClassFile.FieldType.int) 0 := ⟨q_599, q_600, q_601, q_75, q_602, by decide +kernel⟩
theorem q_1196 : Cond.methodLink RL 58 yX7_forget ∈ TB := TB_at 1196 (by decide +kernel) rfl
set_option maxRecDepth 100000 in
theorem q_1199 : Cond.code yX7_forget cX7_forget 1 (Option.some Jvm.ClassFile.FieldType.int) ∈ TB := TB_at 1199 rfl rfl
theorem q_1197 : Cond.instanceMethod yX7_forget ∈ TB := TB_at 1197 (by decide +kernel) rfl
theorem q_1198 : Cond.selects RX7 yX7_forget yX7_forget ∈ TB := TB_at 1198 (by decide +kernel) rfl
theorem vw_L_58 : VW RL 58 RX7 yX7_forget cX7_forget 1 (Option.some Jvm.ClassFile.FieldType.int) 0 := ⟨q_1196, q_1197, q_1198, q_89, q_1199, by decide +kernel⟩
set_option maxHeartbeats 4000000 in
set_option maxRecDepth 20000 in
theorem lc_9 {D : va_G} {cs : Nat → ClassId} {base : Nat} {K : (Nat → Nat) × (Nat → Nat) × Nat} {RR : Nat → St → St → Prop} {b L : Nat} {xs : Nat → Int32} {p : Program} {l : Launch} {e : Env} {s : State} {m : MethodId} {args : Array Value} {below : List Frame} {meth : Method} {c : Code} {Q : State → Prop} (hop : ∀ (M : Nat) (σC σM : St) , 53 ≤ M → RR M σC σM → w_X6_forget M (fun r u => w_X7_forget 20 (fun r2 u2 => r = r2 ∧ RR M u u2)  σM)  σC) (M : Nat) (adC adM : Nat → Nat) (σC σM : St) (H : Heap) (locs : List Loc) (ls : Array Slot) (cells slots i : Nat) (hM : 53 ≤ M) (hR : RR M σC σM) (hc : CX (Gc D cs base K adM σM) p s m args meth c cL_law RL 4) (hw : WH (Gc D cs base K adM σM) YC M adC σC s H locs) (hX : va_X b L xs s s.heap) (hbl : b < s.heap.size) (hbA : b < base) (hi : i + 7 ≤ L) (hL : L ≤ 3584) (hl : lv_has ls 4 [(0, .ref b), (1, .ref (adC 0)), (2, .ref (adM 0)), (3, .int (nI i))]) (hcs : cells + 2 ≤ room_1.cells ∧ slots + 170 ≤ room_1.slots)
    (cont : ∀ (M' : Nat) (adC' : Nat → Nat) (σC' σM' : St) (H : Heap) (locs : List Loc) (ls : Array Slot), 53 ≤ M' → RR M' σC' σM' → WH (Gc D cs base K adM σM') YC M' adC' σC' s H locs → lv_has ls 4 [(0, .ref b), (1, .ref (adC' 0)), (2, .ref (adM 0)), (3, .int (nI i))] → W p l e room_1 s m args below meth c H locs (cells + 2) (slots + 170) Q (F0 m 1577 ls [])) :
    W p l e room_1 s m args below meth c H locs cells slots Q (F0 m 565 ls []) := by
  have hx := hc.1
  have hb := hc.2.1
  refine lv_aload_n hx hb dL_law_565 rfl (lv_at hl 1 rfl) ?_
  refine g_Vi (Γ := Gc D cs base K adM σM) (Y := YC) (ci := 6) (n := 0) (k := 0) (As := []) (rest := []) rfl (by decide) vw_L_55 ⟨Nat.le_of_ble_eq_true rfl, Nat.le_of_ble_eq_true rfl, (Nat.le_trans (Nat.le_add_right cells 2) hcs.1), (Nat.le_trans (Nat.le_add_right slots 170) hcs.2)⟩ hc hw hl.1 (by omega) rfl (m_X6_forget l hM  σC (hop M σC σM  hM hR)) rfl rfl (Nat.le_of_ble_eq_true rfl) dL_law_566 (fun r1 u1 H locs h hw => ?_)
  replace hw := WH_swap hw
  have hc2 := CX_swap (M := M) (adC := adC) (σC := u1) hc
  refine lv_aload_n hx hb dL_law_569 rfl (lv_at hl 2 rfl) ?_
  refine g_Vi (Γ := Gm2 D cs base K M adC u1) (Y := YM) (ci := 7) (n := 0) (k := 0) (As := []) (rest := [.int r1]) rfl (by decide) vw_L_58 ⟨Nat.le_of_ble_eq_true rfl, Nat.le_of_ble_eq_true rfl, (Nat.le_trans (Nat.le_add_right cells 2) hcs.1), (Nat.le_trans (Nat.le_add_right slots 170) hcs.2)⟩ hc2 hw hl.1 (by decide) rfl (m_X7_forget l (Nat.le_refl 20)  σM h) rfl rfl (Nat.le_of_ble_eq_true rfl) dL_law_570 (fun r2 u2 H locs h hw => ?_)
  obtain ⟨hrr, hR2⟩ := h
  subst hrr
  replace hw := WH_swap2 hw
  refine lv_icmp_eq (tgt := 1577) hx hb dL_law_573 (by decide) (fun _ => ?_) (fun c => absurd rfl c)
  refine W.widen (k := cells + 2) (n := slots + 170) (by omega) (by omega) ?_
  exact cont M adC u1 u2 _ _ _ hM hR2 hw hl
theorem q_603 : Cond.methodLink RL 59 yX6_actTold ∈ TB := TB_at 603 (by decide +kernel) rfl
set_option maxRecDepth 100000 in
theorem q_606 : Cond.code yX6_actTold cX6_actTold 4 (Option.some Jvm.ClassFile.FieldType.int) ∈ TB := TB_at 606 rfl rfl
theorem q_604 : Cond.instanceMethod yX6_actTold ∈ TB := TB_at 604 (by decide +kernel) rfl
theorem q_605 : Cond.selects RX6 yX6_actTold yX6_actTold ∈ TB := TB_at 605 (by decide +kernel) rfl
theorem vw_L_59 : VW RL 59 RX6 yX6_actTold cX6_actTold 4 (Option.some Jvm.ClassFile.FieldType.int) 2 := ⟨q_603, q_604, q_605, q_75, q_606, by decide +kernel⟩
theorem q_1200 : Cond.methodLink RL 62 yX7_actTold ∈ TB := TB_at 1200 (by decide +kernel) rfl
set_option maxRecDepth 100000 in
theorem q_1203 : Cond.code yX7_actTold cX7_actTold 3 (Option.some Jvm.ClassFile.FieldType.int) ∈ TB := TB_at 1203 rfl rfl
theorem q_1201 : Cond.instanceMethod yX7_actTold ∈ TB := TB_at 1201 (by decide +kernel) rfl
theorem q_1202 : Cond.selects RX7 yX7_actTold yX7_actTold ∈ TB := TB_at 1202 (by decide +kernel) rfl
theorem vw_L_62 : VW RL 62 RX7 yX7_actTold cX7_actTold 3 (Option.some Jvm.ClassFile.FieldType.int) 2 := ⟨q_1200, q_1201, q_1202, q_89, q_1203, by decide +kernel⟩
set_option maxHeartbeats 4000000 in
set_option maxRecDepth 20000 in
theorem lc_10 {D : va_G} {cs : Nat → ClassId} {base : Nat} {K : (Nat → Nat) × (Nat → Nat) × Nat} {RR : Nat → St → St → Prop} {b L : Nat} {xs : Nat → Int32} {p : Program} {l : Launch} {e : Env} {s : State} {m : MethodId} {args : Array Value} {below : List Frame} {meth : Method} {c : Code} {Q : State → Prop} (hop : ∀ (M : Nat) (σC σM : St) (a1 a2 : Int32) , 53 ≤ M → RR M σC σM → w_X6_actTold M (fun r u => w_X7_actTold 20 (fun r2 u2 => r = r2 ∧ RR M u u2) a1 a2 σM) a1 a2 σC) (M : Nat) (adC adM : Nat → Nat) (σC σM : St) (H : Heap) (locs : List Loc) (ls : Array Slot) (cells slots i : Nat) (hM : 53 ≤ M) (hR : RR M σC σM) (hc : CX (Gc D cs base K adM σM) p s m args meth c cL_law RL 4) (hw : WH (Gc D cs base K adM σM) YC M adC σC s H locs) (hX : va_X b L xs s s.heap) (hbl : b < s.heap.size) (hbA : b < base) (hi : i + 7 ≤ L) (hL : L ≤ 3584) (hl : lv_has ls 4 [(0, .ref b), (1, .ref (adC 0)), (2, .ref (adM 0)), (3, .int (nI i))]) (hcs : cells + 2 ≤ room_1.cells ∧ slots + 170 ≤ room_1.slots)
    (cont : ∀ (M' : Nat) (adC' : Nat → Nat) (σC' σM' : St) (H : Heap) (locs : List Loc) (ls : Array Slot), 53 ≤ M' → RR M' σC' σM' → WH (Gc D cs base K adM σM') YC M' adC' σC' s H locs → lv_has ls 4 [(0, .ref b), (1, .ref (adC' 0)), (2, .ref (adM 0)), (3, .int (nI i))] → W p l e room_1 s m args below meth c H locs (cells + 2) (slots + 170) Q (F0 m 1577 ls [])) :
    W p l e room_1 s m args below meth c H locs cells slots Q (F0 m 578 ls []) := by
  have hx := hc.1
  have hb := hc.2.1
  refine lv_aload_n hx hb dL_law_578 rfl (lv_at hl 1 rfl) ?_
  refine lv_aload_n hx hb dL_law_579 rfl (lv_at hl 0 rfl) ?_
  refine lv_iload_n hx hb dL_law_580 rfl (lv_at hl 3 rfl) ?_
  refine lv_iconst (v := 1) hx hb dL_law_581 (by decide) ?_
  refine lv_iadd hx hb dL_law_582 ?_
  refine g_scr (k := 1) (i := i) hc hw.2.2 hX hbl hbA (by omega) (by omega) (by rw [← nI_add]; rfl) dL_law_583 ?_
  refine lv_aload_n hx hb dL_law_584 rfl (lv_at hl 0 rfl) ?_
  refine lv_iload_n hx hb dL_law_585 rfl (lv_at hl 3 rfl) ?_
  refine lv_iconst (v := 2) hx hb dL_law_586 (by decide) ?_
  refine lv_iadd hx hb dL_law_587 ?_
  refine g_scr (k := 2) (i := i) hc hw.2.2 hX hbl hbA (by omega) (by omega) (by rw [← nI_add]; rfl) dL_law_588 ?_
  refine g_Vi (Γ := Gc D cs base K adM σM) (Y := YC) (ci := 6) (n := 2) (k := 1) (As := [.int (xs (i + 1)), .int (xs (i + 2))]) (rest := []) rfl (by decide) vw_L_59 ⟨Nat.le_of_ble_eq_true rfl, Nat.le_of_ble_eq_true rfl, (Nat.le_trans (Nat.le_add_right cells 2) hcs.1), (Nat.le_trans (Nat.le_add_right slots 170) hcs.2)⟩ hc hw hl.1 (by omega) rfl (m_X6_actTold l hM (xs (i + 1)) (xs (i + 2)) σC (hop M σC σM (xs (i + 1)) (xs (i + 2)) hM hR)) rfl rfl (Nat.le_of_ble_eq_true rfl) dL_law_589 (fun r1 u1 H locs h hw => ?_)
  replace hw := WH_swap hw
  have hc2 := CX_swap (M := M) (adC := adC) (σC := u1) hc
  refine lv_aload_n hx hb dL_law_592 rfl (lv_at hl 2 rfl) ?_
  refine lv_aload_n hx hb dL_law_593 rfl (lv_at hl 0 rfl) ?_
  refine lv_iload_n hx hb dL_law_594 rfl (lv_at hl 3 rfl) ?_
  refine lv_iconst (v := 1) hx hb dL_law_595 (by decide) ?_
  refine lv_iadd hx hb dL_law_596 ?_
  refine g_scr (k := 1) (i := i) hc2 hw.2.2 hX hbl hbA (by omega) (by omega) (by rw [← nI_add]; rfl) dL_law_597 ?_
  refine lv_aload_n hx hb dL_law_598 rfl (lv_at hl 0 rfl) ?_
  refine lv_iload_n hx hb dL_law_599 rfl (lv_at hl 3 rfl) ?_
  refine lv_iconst (v := 2) hx hb dL_law_600 (by decide) ?_
  refine lv_iadd hx hb dL_law_601 ?_
  refine g_scr (k := 2) (i := i) hc2 hw.2.2 hX hbl hbA (by omega) (by omega) (by rw [← nI_add]; rfl) dL_law_602 ?_
  refine g_Vi (Γ := Gm2 D cs base K M adC u1) (Y := YM) (ci := 7) (n := 2) (k := 2) (As := [.int (xs (i + 1)), .int (xs (i + 2))]) (rest := [.int r1]) rfl (by decide) vw_L_62 ⟨Nat.le_of_ble_eq_true rfl, Nat.le_of_ble_eq_true rfl, (Nat.le_trans (Nat.le_add_right cells 2) hcs.1), (Nat.le_trans (Nat.le_add_right slots 170) hcs.2)⟩ hc2 hw hl.1 (by decide) rfl (m_X7_actTold l (Nat.le_refl 20) (xs (i + 1)) (xs (i + 2)) σM h) rfl rfl (Nat.le_of_ble_eq_true rfl) dL_law_603 (fun r2 u2 H locs h hw => ?_)
  obtain ⟨hrr, hR2⟩ := h
  subst hrr
  replace hw := WH_swap2 hw
  refine lv_icmp_eq (tgt := 1577) hx hb dL_law_606 (by decide) (fun _ => ?_) (fun c => absurd rfl c)
  refine W.widen (k := cells + 2) (n := slots + 170) (by omega) (by omega) ?_
  exact cont M adC u1 u2 _ _ _ hM hR2 hw hl
theorem q_616 : Cond.methodLink RL 63 yX6_pot ∈ TB := TB_at 616 (by decide +kernel) rfl
set_option maxRecDepth 100000 in
theorem q_619 : Cond.code yX6_pot cX6_pot 3 (Option.some Jvm.ClassFile.FieldType.int) ∈ TB := TB_at 619 rfl rfl
theorem q_617 : Cond.instanceMethod yX6_pot ∈ TB := TB_at 617 (by decide +kernel) rfl
theorem q_618 : Cond.selects RX6 yX6_pot yX6_pot ∈ TB := TB_at 618 (by decide +kernel) rfl
theorem vw_L_63 : VW RL 63 RX6 yX6_pot cX6_pot 3 (Option.some Jvm.ClassFile.FieldType.int) 2 := ⟨q_616, q_617, q_618, q_75, q_619, by decide +kernel⟩
theorem q_1211 : Cond.methodLink RL 66 yX7_pot ∈ TB := TB_at 1211 (by decide +kernel) rfl
set_option maxRecDepth 100000 in
theorem q_1214 : Cond.code yX7_pot cX7_pot 3 (Option.some Jvm.ClassFile.FieldType.int) ∈ TB := TB_at 1214 rfl rfl
theorem q_1212 : Cond.instanceMethod yX7_pot ∈ TB := TB_at 1212 (by decide +kernel) rfl
theorem q_1213 : Cond.selects RX7 yX7_pot yX7_pot ∈ TB := TB_at 1213 (by decide +kernel) rfl
theorem vw_L_66 : VW RL 66 RX7 yX7_pot cX7_pot 3 (Option.some Jvm.ClassFile.FieldType.int) 2 := ⟨q_1211, q_1212, q_1213, q_89, q_1214, by decide +kernel⟩
set_option maxHeartbeats 4000000 in
set_option maxRecDepth 20000 in
theorem lc_11 {D : va_G} {cs : Nat → ClassId} {base : Nat} {K : (Nat → Nat) × (Nat → Nat) × Nat} {RR : Nat → St → St → Prop} {b L : Nat} {xs : Nat → Int32} {p : Program} {l : Launch} {e : Env} {s : State} {m : MethodId} {args : Array Value} {below : List Frame} {meth : Method} {c : Code} {Q : State → Prop} (hop : ∀ (M : Nat) (σC σM : St) (a1 a2 : Int32) , 53 ≤ M → RR M σC σM → w_X6_pot M (fun r u => w_X7_pot 20 (fun r2 u2 => r = r2 ∧ RR M u u2) a1 a2 σM) a1 a2 σC) (M : Nat) (adC adM : Nat → Nat) (σC σM : St) (H : Heap) (locs : List Loc) (ls : Array Slot) (cells slots i : Nat) (hM : 53 ≤ M) (hR : RR M σC σM) (hc : CX (Gc D cs base K adM σM) p s m args meth c cL_law RL 4) (hw : WH (Gc D cs base K adM σM) YC M adC σC s H locs) (hX : va_X b L xs s s.heap) (hbl : b < s.heap.size) (hbA : b < base) (hi : i + 7 ≤ L) (hL : L ≤ 3584) (hl : lv_has ls 4 [(0, .ref b), (1, .ref (adC 0)), (2, .ref (adM 0)), (3, .int (nI i))]) (hcs : cells + 2 ≤ room_1.cells ∧ slots + 170 ≤ room_1.slots)
    (cont : ∀ (M' : Nat) (adC' : Nat → Nat) (σC' σM' : St) (H : Heap) (locs : List Loc) (ls : Array Slot), 53 ≤ M' → RR M' σC' σM' → WH (Gc D cs base K adM σM') YC M' adC' σC' s H locs → lv_has ls 4 [(0, .ref b), (1, .ref (adC' 0)), (2, .ref (adM 0)), (3, .int (nI i))] → W p l e room_1 s m args below meth c H locs (cells + 2) (slots + 170) Q (F0 m 1577 ls [])) :
    W p l e room_1 s m args below meth c H locs cells slots Q (F0 m 611 ls []) := by
  have hx := hc.1
  have hb := hc.2.1
  refine lv_aload_n hx hb dL_law_611 rfl (lv_at hl 1 rfl) ?_
  refine lv_aload_n hx hb dL_law_612 rfl (lv_at hl 0 rfl) ?_
  refine lv_iload_n hx hb dL_law_613 rfl (lv_at hl 3 rfl) ?_
  refine lv_iconst (v := 1) hx hb dL_law_614 (by decide) ?_
  refine lv_iadd hx hb dL_law_615 ?_
  refine g_scr (k := 1) (i := i) hc hw.2.2 hX hbl hbA (by omega) (by omega) (by rw [← nI_add]; rfl) dL_law_616 ?_
  refine lv_aload_n hx hb dL_law_617 rfl (lv_at hl 0 rfl) ?_
  refine lv_iload_n hx hb dL_law_618 rfl (lv_at hl 3 rfl) ?_
  refine lv_iconst (v := 2) hx hb dL_law_619 (by decide) ?_
  refine lv_iadd hx hb dL_law_620 ?_
  refine g_scr (k := 2) (i := i) hc hw.2.2 hX hbl hbA (by omega) (by omega) (by rw [← nI_add]; rfl) dL_law_621 ?_
  refine g_Vi (Γ := Gc D cs base K adM σM) (Y := YC) (ci := 6) (n := 2) (k := 6) (As := [.int (xs (i + 1)), .int (xs (i + 2))]) (rest := []) rfl (by decide) vw_L_63 ⟨Nat.le_of_ble_eq_true rfl, Nat.le_of_ble_eq_true rfl, (Nat.le_trans (Nat.le_add_right cells 2) hcs.1), (Nat.le_trans (Nat.le_add_right slots 170) hcs.2)⟩ hc hw hl.1 (by omega) rfl (m_X6_pot l hM (xs (i + 1)) (xs (i + 2)) σC (hop M σC σM (xs (i + 1)) (xs (i + 2)) hM hR)) rfl rfl (Nat.le_of_ble_eq_true rfl) dL_law_622 (fun r1 u1 H locs h hw => ?_)
  replace hw := WH_swap hw
  have hc2 := CX_swap (M := M) (adC := adC) (σC := u1) hc
  refine lv_aload_n hx hb dL_law_625 rfl (lv_at hl 2 rfl) ?_
  refine lv_aload_n hx hb dL_law_626 rfl (lv_at hl 0 rfl) ?_
  refine lv_iload_n hx hb dL_law_627 rfl (lv_at hl 3 rfl) ?_
  refine lv_iconst (v := 1) hx hb dL_law_628 (by decide) ?_
  refine lv_iadd hx hb dL_law_629 ?_
  refine g_scr (k := 1) (i := i) hc2 hw.2.2 hX hbl hbA (by omega) (by omega) (by rw [← nI_add]; rfl) dL_law_630 ?_
  refine lv_aload_n hx hb dL_law_631 rfl (lv_at hl 0 rfl) ?_
  refine lv_iload_n hx hb dL_law_632 rfl (lv_at hl 3 rfl) ?_
  refine lv_iconst (v := 2) hx hb dL_law_633 (by decide) ?_
  refine lv_iadd hx hb dL_law_634 ?_
  refine g_scr (k := 2) (i := i) hc2 hw.2.2 hX hbl hbA (by omega) (by omega) (by rw [← nI_add]; rfl) dL_law_635 ?_
  refine g_Vi (Γ := Gm2 D cs base K M adC u1) (Y := YM) (ci := 7) (n := 2) (k := 6) (As := [.int (xs (i + 1)), .int (xs (i + 2))]) (rest := [.int r1]) rfl (by decide) vw_L_66 ⟨Nat.le_of_ble_eq_true rfl, Nat.le_of_ble_eq_true rfl, (Nat.le_trans (Nat.le_add_right cells 2) hcs.1), (Nat.le_trans (Nat.le_add_right slots 170) hcs.2)⟩ hc2 hw hl.1 (by decide) rfl (m_X7_pot l (Nat.le_refl 20) (xs (i + 1)) (xs (i + 2)) σM h) rfl rfl (Nat.le_of_ble_eq_true rfl) dL_law_636 (fun r2 u2 H locs h hw => ?_)
  obtain ⟨hrr, hR2⟩ := h
  subst hrr
  replace hw := WH_swap2 hw
  refine lv_icmp_eq (tgt := 1577) hx hb dL_law_639 (by decide) (fun _ => ?_) (fun c => absurd rfl c)
  refine W.widen (k := cells + 2) (n := slots + 170) (by omega) (by omega) ?_
  exact cont M adC u1 u2 _ _ _ hM hR2 hw hl
theorem q_726 : Cond.methodLink RL 67 yX6_splits ∈ TB := TB_at 726 (by decide +kernel) rfl
set_option maxRecDepth 100000 in
theorem q_729 : Cond.code yX6_splits cX6_splits 2 (Option.some Jvm.ClassFile.FieldType.int) ∈ TB := TB_at 729 rfl rfl
theorem q_727 : Cond.instanceMethod yX6_splits ∈ TB := TB_at 727 (by decide +kernel) rfl
theorem q_728 : Cond.selects RX6 yX6_splits yX6_splits ∈ TB := TB_at 728 (by decide +kernel) rfl
theorem vw_L_67 : VW RL 67 RX6 yX6_splits cX6_splits 2 (Option.some Jvm.ClassFile.FieldType.int) 1 := ⟨q_726, q_727, q_728, q_75, q_729, by decide +kernel⟩
theorem q_1284 : Cond.methodLink RL 70 yX7_splits ∈ TB := TB_at 1284 (by decide +kernel) rfl
set_option maxRecDepth 100000 in
theorem q_1287 : Cond.code yX7_splits cX7_splits 7 (Option.some Jvm.ClassFile.FieldType.int) ∈ TB := TB_at 1287 rfl rfl
theorem q_1285 : Cond.instanceMethod yX7_splits ∈ TB := TB_at 1285 (by decide +kernel) rfl
theorem q_1286 : Cond.selects RX7 yX7_splits yX7_splits ∈ TB := TB_at 1286 (by decide +kernel) rfl
theorem vw_L_70 : VW RL 70 RX7 yX7_splits cX7_splits 7 (Option.some Jvm.ClassFile.FieldType.int) 1 := ⟨q_1284, q_1285, q_1286, q_89, q_1287, by decide +kernel⟩
set_option maxHeartbeats 4000000 in
set_option maxRecDepth 20000 in
theorem lc_12 {D : va_G} {cs : Nat → ClassId} {base : Nat} {K : (Nat → Nat) × (Nat → Nat) × Nat} {RR : Nat → St → St → Prop} {b L : Nat} {xs : Nat → Int32} {p : Program} {l : Launch} {e : Env} {s : State} {m : MethodId} {args : Array Value} {below : List Frame} {meth : Method} {c : Code} {Q : State → Prop} (hop : ∀ (M : Nat) (σC σM : St) (a1 : Int32) , 53 ≤ M → RR M σC σM → w_X6_splits M (fun r u => w_X7_splits 20 (fun r2 u2 => r = r2 ∧ RR M u u2) a1 σM) a1 σC) (M : Nat) (adC adM : Nat → Nat) (σC σM : St) (H : Heap) (locs : List Loc) (ls : Array Slot) (cells slots i : Nat) (hM : 53 ≤ M) (hR : RR M σC σM) (hc : CX (Gc D cs base K adM σM) p s m args meth c cL_law RL 4) (hw : WH (Gc D cs base K adM σM) YC M adC σC s H locs) (hX : va_X b L xs s s.heap) (hbl : b < s.heap.size) (hbA : b < base) (hi : i + 7 ≤ L) (hL : L ≤ 3584) (hl : lv_has ls 4 [(0, .ref b), (1, .ref (adC 0)), (2, .ref (adM 0)), (3, .int (nI i))]) (hcs : cells + 2 ≤ room_1.cells ∧ slots + 170 ≤ room_1.slots)
    (cont : ∀ (M' : Nat) (adC' : Nat → Nat) (σC' σM' : St) (H : Heap) (locs : List Loc) (ls : Array Slot), 53 ≤ M' → RR M' σC' σM' → WH (Gc D cs base K adM σM') YC M' adC' σC' s H locs → lv_has ls 4 [(0, .ref b), (1, .ref (adC' 0)), (2, .ref (adM 0)), (3, .int (nI i))] → W p l e room_1 s m args below meth c H locs (cells + 2) (slots + 170) Q (F0 m 1577 ls [])) :
    W p l e room_1 s m args below meth c H locs cells slots Q (F0 m 644 ls []) := by
  have hx := hc.1
  have hb := hc.2.1
  refine lv_aload_n hx hb dL_law_644 rfl (lv_at hl 1 rfl) ?_
  refine lv_aload_n hx hb dL_law_645 rfl (lv_at hl 0 rfl) ?_
  refine lv_iload_n hx hb dL_law_646 rfl (lv_at hl 3 rfl) ?_
  refine lv_iconst (v := 1) hx hb dL_law_647 (by decide) ?_
  refine lv_iadd hx hb dL_law_648 ?_
  refine g_scr (k := 1) (i := i) hc hw.2.2 hX hbl hbA (by omega) (by omega) (by rw [← nI_add]; rfl) dL_law_649 ?_
  refine g_Vi (Γ := Gc D cs base K adM σM) (Y := YC) (ci := 6) (n := 1) (k := 6) (As := [.int (xs (i + 1))]) (rest := []) rfl (by decide) vw_L_67 ⟨Nat.le_of_ble_eq_true rfl, Nat.le_of_ble_eq_true rfl, (Nat.le_trans (Nat.le_add_right cells 2) hcs.1), (Nat.le_trans (Nat.le_add_right slots 170) hcs.2)⟩ hc hw hl.1 (by omega) rfl (m_X6_splits l hM (xs (i + 1)) σC (hop M σC σM (xs (i + 1)) hM hR)) rfl rfl (Nat.le_of_ble_eq_true rfl) dL_law_650 (fun r1 u1 H locs h hw => ?_)
  replace hw := WH_swap hw
  have hc2 := CX_swap (M := M) (adC := adC) (σC := u1) hc
  refine lv_aload_n hx hb dL_law_653 rfl (lv_at hl 2 rfl) ?_
  refine lv_aload_n hx hb dL_law_654 rfl (lv_at hl 0 rfl) ?_
  refine lv_iload_n hx hb dL_law_655 rfl (lv_at hl 3 rfl) ?_
  refine lv_iconst (v := 1) hx hb dL_law_656 (by decide) ?_
  refine lv_iadd hx hb dL_law_657 ?_
  refine g_scr (k := 1) (i := i) hc2 hw.2.2 hX hbl hbA (by omega) (by omega) (by rw [← nI_add]; rfl) dL_law_658 ?_
  refine g_Vi (Γ := Gm2 D cs base K M adC u1) (Y := YM) (ci := 7) (n := 1) (k := 5) (As := [.int (xs (i + 1))]) (rest := [.int r1]) rfl (by decide) vw_L_70 ⟨Nat.le_of_ble_eq_true rfl, Nat.le_of_ble_eq_true rfl, (Nat.le_trans (Nat.le_add_right cells 2) hcs.1), (Nat.le_trans (Nat.le_add_right slots 170) hcs.2)⟩ hc2 hw hl.1 (by decide) rfl (m_X7_splits l (Nat.le_refl 20) (xs (i + 1)) σM h) rfl rfl (Nat.le_of_ble_eq_true rfl) dL_law_659 (fun r2 u2 H locs h hw => ?_)
  obtain ⟨hrr, hR2⟩ := h
  subst hrr
  replace hw := WH_swap2 hw
  refine lv_icmp_eq (tgt := 1577) hx hb dL_law_662 (by decide) (fun _ => ?_) (fun c => absurd rfl c)
  refine W.widen (k := cells + 2) (n := slots + 170) (by omega) (by omega) ?_
  exact cont M adC u1 u2 _ _ _ hM hR2 hw hl
theorem q_742 : Cond.methodLink RL 71 yX6_hour ∈ TB := TB_at 742 (by decide +kernel) rfl
set_option maxRecDepth 100000 in
theorem q_745 : Cond.code yX6_hour cX6_hour 4 (Option.some Jvm.ClassFile.FieldType.int) ∈ TB := TB_at 745 rfl rfl
theorem q_743 : Cond.instanceMethod yX6_hour ∈ TB := TB_at 743 (by decide +kernel) rfl
theorem q_744 : Cond.selects RX6 yX6_hour yX6_hour ∈ TB := TB_at 744 (by decide +kernel) rfl
theorem vw_L_71 : VW RL 71 RX6 yX6_hour cX6_hour 4 (Option.some Jvm.ClassFile.FieldType.int) 2 := ⟨q_742, q_743, q_744, q_75, q_745, by decide +kernel⟩
theorem q_1292 : Cond.methodLink RL 74 yX7_hour ∈ TB := TB_at 1292 (by decide +kernel) rfl
set_option maxRecDepth 100000 in
theorem q_1295 : Cond.code yX7_hour cX7_hour 5 (Option.some Jvm.ClassFile.FieldType.int) ∈ TB := TB_at 1295 rfl rfl
theorem q_1293 : Cond.instanceMethod yX7_hour ∈ TB := TB_at 1293 (by decide +kernel) rfl
theorem q_1294 : Cond.selects RX7 yX7_hour yX7_hour ∈ TB := TB_at 1294 (by decide +kernel) rfl
theorem vw_L_74 : VW RL 74 RX7 yX7_hour cX7_hour 5 (Option.some Jvm.ClassFile.FieldType.int) 2 := ⟨q_1292, q_1293, q_1294, q_89, q_1295, by decide +kernel⟩
set_option maxHeartbeats 4000000 in
set_option maxRecDepth 20000 in
theorem lc_13 {D : va_G} {cs : Nat → ClassId} {base : Nat} {K : (Nat → Nat) × (Nat → Nat) × Nat} {RR : Nat → St → St → Prop} {b L : Nat} {xs : Nat → Int32} {p : Program} {l : Launch} {e : Env} {s : State} {m : MethodId} {args : Array Value} {below : List Frame} {meth : Method} {c : Code} {Q : State → Prop} (hop : ∀ (M : Nat) (σC σM : St) (a1 a2 : Int32) , 53 ≤ M → RR M σC σM → w_X6_hour M (fun r u => w_X7_hour 20 (fun r2 u2 => r = r2 ∧ RR M u u2) a1 a2 σM) a1 a2 σC) (M : Nat) (adC adM : Nat → Nat) (σC σM : St) (H : Heap) (locs : List Loc) (ls : Array Slot) (cells slots i : Nat) (hM : 53 ≤ M) (hR : RR M σC σM) (hc : CX (Gc D cs base K adM σM) p s m args meth c cL_law RL 4) (hw : WH (Gc D cs base K adM σM) YC M adC σC s H locs) (hX : va_X b L xs s s.heap) (hbl : b < s.heap.size) (hbA : b < base) (hi : i + 7 ≤ L) (hL : L ≤ 3584) (hl : lv_has ls 4 [(0, .ref b), (1, .ref (adC 0)), (2, .ref (adM 0)), (3, .int (nI i))]) (hcs : cells + 2 ≤ room_1.cells ∧ slots + 170 ≤ room_1.slots)
    (cont : ∀ (M' : Nat) (adC' : Nat → Nat) (σC' σM' : St) (H : Heap) (locs : List Loc) (ls : Array Slot), 53 ≤ M' → RR M' σC' σM' → WH (Gc D cs base K adM σM') YC M' adC' σC' s H locs → lv_has ls 4 [(0, .ref b), (1, .ref (adC' 0)), (2, .ref (adM 0)), (3, .int (nI i))] → W p l e room_1 s m args below meth c H locs (cells + 2) (slots + 170) Q (F0 m 1577 ls [])) :
    W p l e room_1 s m args below meth c H locs cells slots Q (F0 m 667 ls []) := by
  have hx := hc.1
  have hb := hc.2.1
  refine lv_aload_n hx hb dL_law_667 rfl (lv_at hl 1 rfl) ?_
  refine lv_aload_n hx hb dL_law_668 rfl (lv_at hl 0 rfl) ?_
  refine lv_iload_n hx hb dL_law_669 rfl (lv_at hl 3 rfl) ?_
  refine lv_iconst (v := 1) hx hb dL_law_670 (by decide) ?_
  refine lv_iadd hx hb dL_law_671 ?_
  refine g_scr (k := 1) (i := i) hc hw.2.2 hX hbl hbA (by omega) (by omega) (by rw [← nI_add]; rfl) dL_law_672 ?_
  refine lv_aload_n hx hb dL_law_673 rfl (lv_at hl 0 rfl) ?_
  refine lv_iload_n hx hb dL_law_674 rfl (lv_at hl 3 rfl) ?_
  refine lv_iconst (v := 2) hx hb dL_law_675 (by decide) ?_
  refine lv_iadd hx hb dL_law_676 ?_
  refine g_scr (k := 2) (i := i) hc hw.2.2 hX hbl hbA (by omega) (by omega) (by rw [← nI_add]; rfl) dL_law_677 ?_
  refine g_Vi (Γ := Gc D cs base K adM σM) (Y := YC) (ci := 6) (n := 2) (k := 6) (As := [.int (xs (i + 1)), .int (xs (i + 2))]) (rest := []) rfl (by decide) vw_L_71 ⟨Nat.le_of_ble_eq_true rfl, Nat.le_of_ble_eq_true rfl, (Nat.le_trans (Nat.le_add_right cells 2) hcs.1), (Nat.le_trans (Nat.le_add_right slots 170) hcs.2)⟩ hc hw hl.1 (by omega) rfl (m_X6_hour l hM (xs (i + 1)) (xs (i + 2)) σC (hop M σC σM (xs (i + 1)) (xs (i + 2)) hM hR)) rfl rfl (Nat.le_of_ble_eq_true rfl) dL_law_678 (fun r1 u1 H locs h hw => ?_)
  replace hw := WH_swap hw
  have hc2 := CX_swap (M := M) (adC := adC) (σC := u1) hc
  refine lv_aload_n hx hb dL_law_681 rfl (lv_at hl 2 rfl) ?_
  refine lv_aload_n hx hb dL_law_682 rfl (lv_at hl 0 rfl) ?_
  refine lv_iload_n hx hb dL_law_683 rfl (lv_at hl 3 rfl) ?_
  refine lv_iconst (v := 1) hx hb dL_law_684 (by decide) ?_
  refine lv_iadd hx hb dL_law_685 ?_
  refine g_scr (k := 1) (i := i) hc2 hw.2.2 hX hbl hbA (by omega) (by omega) (by rw [← nI_add]; rfl) dL_law_686 ?_
  refine lv_aload_n hx hb dL_law_687 rfl (lv_at hl 0 rfl) ?_
  refine lv_iload_n hx hb dL_law_688 rfl (lv_at hl 3 rfl) ?_
  refine lv_iconst (v := 2) hx hb dL_law_689 (by decide) ?_
  refine lv_iadd hx hb dL_law_690 ?_
  refine g_scr (k := 2) (i := i) hc2 hw.2.2 hX hbl hbA (by omega) (by omega) (by rw [← nI_add]; rfl) dL_law_691 ?_
  refine g_Vi (Γ := Gm2 D cs base K M adC u1) (Y := YM) (ci := 7) (n := 2) (k := 6) (As := [.int (xs (i + 1)), .int (xs (i + 2))]) (rest := [.int r1]) rfl (by decide) vw_L_74 ⟨Nat.le_of_ble_eq_true rfl, Nat.le_of_ble_eq_true rfl, (Nat.le_trans (Nat.le_add_right cells 2) hcs.1), (Nat.le_trans (Nat.le_add_right slots 170) hcs.2)⟩ hc2 hw hl.1 (by decide) rfl (m_X7_hour l (Nat.le_refl 20) (xs (i + 1)) (xs (i + 2)) σM h) rfl rfl (Nat.le_of_ble_eq_true rfl) dL_law_692 (fun r2 u2 H locs h hw => ?_)
  obtain ⟨hrr, hR2⟩ := h
  subst hrr
  replace hw := WH_swap2 hw
  refine lv_icmp_eq (tgt := 1577) hx hb dL_law_695 (by decide) (fun _ => ?_) (fun c => absurd rfl c)
  refine W.widen (k := cells + 2) (n := slots + 170) (by omega) (by omega) ?_
  exact cont M adC u1 u2 _ _ _ hM hR2 hw hl
theorem q_747 : Cond.methodLink RL 75 yX6_flames ∈ TB := TB_at 747 (by decide +kernel) rfl
set_option maxRecDepth 100000 in
theorem q_750 : Cond.code yX6_flames cX6_flames 3 (Option.some Jvm.ClassFile.FieldType.int) ∈ TB := TB_at 750 rfl rfl
theorem q_748 : Cond.instanceMethod yX6_flames ∈ TB := TB_at 748 (by decide +kernel) rfl
theorem q_749 : Cond.selects RX6 yX6_flames yX6_flames ∈ TB := TB_at 749 (by decide +kernel) rfl
theorem vw_L_75 : VW RL 75 RX6 yX6_flames cX6_flames 3 (Option.some Jvm.ClassFile.FieldType.int) 0 := ⟨q_747, q_748, q_749, q_75, q_750, by decide +kernel⟩
theorem q_1296 : Cond.methodLink RL 78 yX7_flames ∈ TB := TB_at 1296 (by decide +kernel) rfl
set_option maxRecDepth 100000 in
theorem q_1299 : Cond.code yX7_flames cX7_flames 3 (Option.some Jvm.ClassFile.FieldType.int) ∈ TB := TB_at 1299 rfl rfl
theorem q_1297 : Cond.instanceMethod yX7_flames ∈ TB := TB_at 1297 (by decide +kernel) rfl
theorem q_1298 : Cond.selects RX7 yX7_flames yX7_flames ∈ TB := TB_at 1298 (by decide +kernel) rfl
theorem vw_L_78 : VW RL 78 RX7 yX7_flames cX7_flames 3 (Option.some Jvm.ClassFile.FieldType.int) 0 := ⟨q_1296, q_1297, q_1298, q_89, q_1299, by decide +kernel⟩
set_option maxHeartbeats 4000000 in
set_option maxRecDepth 20000 in
theorem lc_14 {D : va_G} {cs : Nat → ClassId} {base : Nat} {K : (Nat → Nat) × (Nat → Nat) × Nat} {RR : Nat → St → St → Prop} {b L : Nat} {xs : Nat → Int32} {p : Program} {l : Launch} {e : Env} {s : State} {m : MethodId} {args : Array Value} {below : List Frame} {meth : Method} {c : Code} {Q : State → Prop} (hop : ∀ (M : Nat) (σC σM : St) , 53 ≤ M → RR M σC σM → w_X6_flames M (fun r u => w_X7_flames 20 (fun r2 u2 => r = r2 ∧ RR M u u2)  σM)  σC) (M : Nat) (adC adM : Nat → Nat) (σC σM : St) (H : Heap) (locs : List Loc) (ls : Array Slot) (cells slots i : Nat) (hM : 53 ≤ M) (hR : RR M σC σM) (hc : CX (Gc D cs base K adM σM) p s m args meth c cL_law RL 4) (hw : WH (Gc D cs base K adM σM) YC M adC σC s H locs) (hX : va_X b L xs s s.heap) (hbl : b < s.heap.size) (hbA : b < base) (hi : i + 7 ≤ L) (hL : L ≤ 3584) (hl : lv_has ls 4 [(0, .ref b), (1, .ref (adC 0)), (2, .ref (adM 0)), (3, .int (nI i))]) (hcs : cells + 2 ≤ room_1.cells ∧ slots + 170 ≤ room_1.slots)
    (cont : ∀ (M' : Nat) (adC' : Nat → Nat) (σC' σM' : St) (H : Heap) (locs : List Loc) (ls : Array Slot), 53 ≤ M' → RR M' σC' σM' → WH (Gc D cs base K adM σM') YC M' adC' σC' s H locs → lv_has ls 4 [(0, .ref b), (1, .ref (adC' 0)), (2, .ref (adM 0)), (3, .int (nI i))] → W p l e room_1 s m args below meth c H locs (cells + 2) (slots + 170) Q (F0 m 1577 ls [])) :
    W p l e room_1 s m args below meth c H locs cells slots Q (F0 m 700 ls []) := by
  have hx := hc.1
  have hb := hc.2.1
  refine lv_aload_n hx hb dL_law_700 rfl (lv_at hl 1 rfl) ?_
  refine g_Vi (Γ := Gc D cs base K adM σM) (Y := YC) (ci := 6) (n := 0) (k := 6) (As := []) (rest := []) rfl (by decide) vw_L_75 ⟨Nat.le_of_ble_eq_true rfl, Nat.le_of_ble_eq_true rfl, (Nat.le_trans (Nat.le_add_right cells 2) hcs.1), (Nat.le_trans (Nat.le_add_right slots 170) hcs.2)⟩ hc hw hl.1 (by omega) rfl (m_X6_flames l hM  σC (hop M σC σM  hM hR)) rfl rfl (Nat.le_of_ble_eq_true rfl) dL_law_701 (fun r1 u1 H locs h hw => ?_)
  replace hw := WH_swap hw
  have hc2 := CX_swap (M := M) (adC := adC) (σC := u1) hc
  refine lv_aload_n hx hb dL_law_704 rfl (lv_at hl 2 rfl) ?_
  refine g_Vi (Γ := Gm2 D cs base K M adC u1) (Y := YM) (ci := 7) (n := 0) (k := 8) (As := []) (rest := [.int r1]) rfl (by decide) vw_L_78 ⟨Nat.le_of_ble_eq_true rfl, Nat.le_of_ble_eq_true rfl, (Nat.le_trans (Nat.le_add_right cells 2) hcs.1), (Nat.le_trans (Nat.le_add_right slots 170) hcs.2)⟩ hc2 hw hl.1 (by decide) rfl (m_X7_flames l (Nat.le_refl 20)  σM h) rfl rfl (Nat.le_of_ble_eq_true rfl) dL_law_705 (fun r2 u2 H locs h hw => ?_)
  obtain ⟨hrr, hR2⟩ := h
  subst hrr
  replace hw := WH_swap2 hw
  refine lv_icmp_eq (tgt := 1577) hx hb dL_law_708 (by decide) (fun _ => ?_) (fun c => absurd rfl c)
  refine W.widen (k := cells + 2) (n := slots + 170) (by omega) (by omega) ?_
  exact cont M adC u1 u2 _ _ _ hM hR2 hw hl
theorem q_755 : Cond.methodLink RL 79 yX6_sours ∈ TB := TB_at 755 (by decide +kernel) rfl
set_option maxRecDepth 100000 in
theorem q_758 : Cond.code yX6_sours cX6_sours 3 (Option.some Jvm.ClassFile.FieldType.int) ∈ TB := TB_at 758 rfl rfl
theorem q_756 : Cond.instanceMethod yX6_sours ∈ TB := TB_at 756 (by decide +kernel) rfl
theorem q_757 : Cond.selects RX6 yX6_sours yX6_sours ∈ TB := TB_at 757 (by decide +kernel) rfl
theorem vw_L_79 : VW RL 79 RX6 yX6_sours cX6_sours 3 (Option.some Jvm.ClassFile.FieldType.int) 0 := ⟨q_755, q_756, q_757, q_75, q_758, by decide +kernel⟩
theorem q_1308 : Cond.methodLink RL 82 yX7_sours ∈ TB := TB_at 1308 (by decide +kernel) rfl
set_option maxRecDepth 100000 in
theorem q_1311 : Cond.code yX7_sours cX7_sours 3 (Option.some Jvm.ClassFile.FieldType.int) ∈ TB := TB_at 1311 rfl rfl
theorem q_1309 : Cond.instanceMethod yX7_sours ∈ TB := TB_at 1309 (by decide +kernel) rfl
theorem q_1310 : Cond.selects RX7 yX7_sours yX7_sours ∈ TB := TB_at 1310 (by decide +kernel) rfl
theorem vw_L_82 : VW RL 82 RX7 yX7_sours cX7_sours 3 (Option.some Jvm.ClassFile.FieldType.int) 0 := ⟨q_1308, q_1309, q_1310, q_89, q_1311, by decide +kernel⟩
set_option maxHeartbeats 4000000 in
set_option maxRecDepth 20000 in
theorem lc_15 {D : va_G} {cs : Nat → ClassId} {base : Nat} {K : (Nat → Nat) × (Nat → Nat) × Nat} {RR : Nat → St → St → Prop} {b L : Nat} {xs : Nat → Int32} {p : Program} {l : Launch} {e : Env} {s : State} {m : MethodId} {args : Array Value} {below : List Frame} {meth : Method} {c : Code} {Q : State → Prop} (hop : ∀ (M : Nat) (σC σM : St) , 53 ≤ M → RR M σC σM → w_X6_sours M (fun r u => w_X7_sours 20 (fun r2 u2 => r = r2 ∧ RR M u u2)  σM)  σC) (M : Nat) (adC adM : Nat → Nat) (σC σM : St) (H : Heap) (locs : List Loc) (ls : Array Slot) (cells slots i : Nat) (hM : 53 ≤ M) (hR : RR M σC σM) (hc : CX (Gc D cs base K adM σM) p s m args meth c cL_law RL 4) (hw : WH (Gc D cs base K adM σM) YC M adC σC s H locs) (hX : va_X b L xs s s.heap) (hbl : b < s.heap.size) (hbA : b < base) (hi : i + 7 ≤ L) (hL : L ≤ 3584) (hl : lv_has ls 4 [(0, .ref b), (1, .ref (adC 0)), (2, .ref (adM 0)), (3, .int (nI i))]) (hcs : cells + 2 ≤ room_1.cells ∧ slots + 170 ≤ room_1.slots)
    (cont : ∀ (M' : Nat) (adC' : Nat → Nat) (σC' σM' : St) (H : Heap) (locs : List Loc) (ls : Array Slot), 53 ≤ M' → RR M' σC' σM' → WH (Gc D cs base K adM σM') YC M' adC' σC' s H locs → lv_has ls 4 [(0, .ref b), (1, .ref (adC' 0)), (2, .ref (adM 0)), (3, .int (nI i))] → W p l e room_1 s m args below meth c H locs (cells + 2) (slots + 170) Q (F0 m 1577 ls [])) :
    W p l e room_1 s m args below meth c H locs cells slots Q (F0 m 713 ls []) := by
  have hx := hc.1
  have hb := hc.2.1
  refine lv_aload_n hx hb dL_law_713 rfl (lv_at hl 1 rfl) ?_
  refine g_Vi (Γ := Gc D cs base K adM σM) (Y := YC) (ci := 6) (n := 0) (k := 6) (As := []) (rest := []) rfl (by decide) vw_L_79 ⟨Nat.le_of_ble_eq_true rfl, Nat.le_of_ble_eq_true rfl, (Nat.le_trans (Nat.le_add_right cells 2) hcs.1), (Nat.le_trans (Nat.le_add_right slots 170) hcs.2)⟩ hc hw hl.1 (by omega) rfl (m_X6_sours l hM  σC (hop M σC σM  hM hR)) rfl rfl (Nat.le_of_ble_eq_true rfl) dL_law_714 (fun r1 u1 H locs h hw => ?_)
  replace hw := WH_swap hw
  have hc2 := CX_swap (M := M) (adC := adC) (σC := u1) hc
  refine lv_aload_n hx hb dL_law_717 rfl (lv_at hl 2 rfl) ?_
  refine g_Vi (Γ := Gm2 D cs base K M adC u1) (Y := YM) (ci := 7) (n := 0) (k := 8) (As := []) (rest := [.int r1]) rfl (by decide) vw_L_82 ⟨Nat.le_of_ble_eq_true rfl, Nat.le_of_ble_eq_true rfl, (Nat.le_trans (Nat.le_add_right cells 2) hcs.1), (Nat.le_trans (Nat.le_add_right slots 170) hcs.2)⟩ hc2 hw hl.1 (by decide) rfl (m_X7_sours l (Nat.le_refl 20)  σM h) rfl rfl (Nat.le_of_ble_eq_true rfl) dL_law_718 (fun r2 u2 H locs h hw => ?_)
  obtain ⟨hrr, hR2⟩ := h
  subst hrr
  replace hw := WH_swap2 hw
  refine lv_icmp_eq (tgt := 1577) hx hb dL_law_721 (by decide) (fun _ => ?_) (fun c => absurd rfl c)
  refine W.widen (k := cells + 2) (n := slots + 170) (by omega) (by omega) ?_
  exact cont M adC u1 u2 _ _ _ hM hR2 hw hl
theorem q_759 : Cond.methodLink RL 83 yX6_region ∈ TB := TB_at 759 (by decide +kernel) rfl
set_option maxRecDepth 100000 in
theorem q_762 : Cond.code yX6_region cX6_region 4 (Option.some Jvm.ClassFile.FieldType.int) ∈ TB := TB_at 762 rfl rfl
theorem q_760 : Cond.instanceMethod yX6_region ∈ TB := TB_at 760 (by decide +kernel) rfl
theorem q_761 : Cond.selects RX6 yX6_region yX6_region ∈ TB := TB_at 761 (by decide +kernel) rfl
theorem vw_L_83 : VW RL 83 RX6 yX6_region cX6_region 4 (Option.some Jvm.ClassFile.FieldType.int) 0 := ⟨q_759, q_760, q_761, q_75, q_762, by decide +kernel⟩
theorem q_1312 : Cond.methodLink RL 86 yX7_region ∈ TB := TB_at 1312 (by decide +kernel) rfl
set_option maxRecDepth 100000 in
theorem q_1315 : Cond.code yX7_region cX7_region 3 (Option.some Jvm.ClassFile.FieldType.int) ∈ TB := TB_at 1315 rfl rfl
theorem q_1313 : Cond.instanceMethod yX7_region ∈ TB := TB_at 1313 (by decide +kernel) rfl
theorem q_1314 : Cond.selects RX7 yX7_region yX7_region ∈ TB := TB_at 1314 (by decide +kernel) rfl
theorem vw_L_86 : VW RL 86 RX7 yX7_region cX7_region 3 (Option.some Jvm.ClassFile.FieldType.int) 0 := ⟨q_1312, q_1313, q_1314, q_89, q_1315, by decide +kernel⟩
set_option maxHeartbeats 4000000 in
set_option maxRecDepth 20000 in
theorem lc_16 {D : va_G} {cs : Nat → ClassId} {base : Nat} {K : (Nat → Nat) × (Nat → Nat) × Nat} {RR : Nat → St → St → Prop} {b L : Nat} {xs : Nat → Int32} {p : Program} {l : Launch} {e : Env} {s : State} {m : MethodId} {args : Array Value} {below : List Frame} {meth : Method} {c : Code} {Q : State → Prop} (hop : ∀ (M : Nat) (σC σM : St) , 53 ≤ M → RR M σC σM → w_X6_region M (fun r u => w_X7_region 20 (fun r2 u2 => r = r2 ∧ RR M u u2)  σM)  σC) (M : Nat) (adC adM : Nat → Nat) (σC σM : St) (H : Heap) (locs : List Loc) (ls : Array Slot) (cells slots i : Nat) (hM : 53 ≤ M) (hR : RR M σC σM) (hc : CX (Gc D cs base K adM σM) p s m args meth c cL_law RL 4) (hw : WH (Gc D cs base K adM σM) YC M adC σC s H locs) (hX : va_X b L xs s s.heap) (hbl : b < s.heap.size) (hbA : b < base) (hi : i + 7 ≤ L) (hL : L ≤ 3584) (hl : lv_has ls 4 [(0, .ref b), (1, .ref (adC 0)), (2, .ref (adM 0)), (3, .int (nI i))]) (hcs : cells + 2 ≤ room_1.cells ∧ slots + 170 ≤ room_1.slots)
    (cont : ∀ (M' : Nat) (adC' : Nat → Nat) (σC' σM' : St) (H : Heap) (locs : List Loc) (ls : Array Slot), 53 ≤ M' → RR M' σC' σM' → WH (Gc D cs base K adM σM') YC M' adC' σC' s H locs → lv_has ls 4 [(0, .ref b), (1, .ref (adC' 0)), (2, .ref (adM 0)), (3, .int (nI i))] → W p l e room_1 s m args below meth c H locs (cells + 2) (slots + 170) Q (F0 m 1577 ls [])) :
    W p l e room_1 s m args below meth c H locs cells slots Q (F0 m 726 ls []) := by
  have hx := hc.1
  have hb := hc.2.1
  refine lv_aload_n hx hb dL_law_726 rfl (lv_at hl 1 rfl) ?_
  refine g_Vi (Γ := Gc D cs base K adM σM) (Y := YC) (ci := 6) (n := 0) (k := 6) (As := []) (rest := []) rfl (by decide) vw_L_83 ⟨Nat.le_of_ble_eq_true rfl, Nat.le_of_ble_eq_true rfl, (Nat.le_trans (Nat.le_add_right cells 2) hcs.1), (Nat.le_trans (Nat.le_add_right slots 170) hcs.2)⟩ hc hw hl.1 (by omega) rfl (m_X6_region l hM  σC (hop M σC σM  hM hR)) rfl rfl (Nat.le_of_ble_eq_true rfl) dL_law_727 (fun r1 u1 H locs h hw => ?_)
  replace hw := WH_swap hw
  have hc2 := CX_swap (M := M) (adC := adC) (σC := u1) hc
  refine lv_aload_n hx hb dL_law_730 rfl (lv_at hl 2 rfl) ?_
  refine g_Vi (Γ := Gm2 D cs base K M adC u1) (Y := YM) (ci := 7) (n := 0) (k := 8) (As := []) (rest := [.int r1]) rfl (by decide) vw_L_86 ⟨Nat.le_of_ble_eq_true rfl, Nat.le_of_ble_eq_true rfl, (Nat.le_trans (Nat.le_add_right cells 2) hcs.1), (Nat.le_trans (Nat.le_add_right slots 170) hcs.2)⟩ hc2 hw hl.1 (by decide) rfl (m_X7_region l (Nat.le_refl 20)  σM h) rfl rfl (Nat.le_of_ble_eq_true rfl) dL_law_731 (fun r2 u2 H locs h hw => ?_)
  obtain ⟨hrr, hR2⟩ := h
  subst hrr
  replace hw := WH_swap2 hw
  refine lv_icmp_eq (tgt := 1577) hx hb dL_law_734 (by decide) (fun _ => ?_) (fun c => absurd rfl c)
  refine W.widen (k := cells + 2) (n := slots + 170) (by omega) (by omega) ?_
  exact cont M adC u1 u2 _ _ _ hM hR2 hw hl
theorem q_763 : Cond.methodLink RL 87 yX6_most ∈ TB := TB_at 763 (by decide +kernel) rfl
set_option maxRecDepth 100000 in
theorem q_766 : Cond.code yX6_most cX6_most 3 (Option.some Jvm.ClassFile.FieldType.int) ∈ TB := TB_at 766 rfl rfl
theorem q_764 : Cond.instanceMethod yX6_most ∈ TB := TB_at 764 (by decide +kernel) rfl
theorem q_765 : Cond.selects RX6 yX6_most yX6_most ∈ TB := TB_at 765 (by decide +kernel) rfl
theorem vw_L_87 : VW RL 87 RX6 yX6_most cX6_most 3 (Option.some Jvm.ClassFile.FieldType.int) 0 := ⟨q_763, q_764, q_765, q_75, q_766, by decide +kernel⟩
theorem q_1316 : Cond.methodLink RL 90 yX7_most ∈ TB := TB_at 1316 (by decide +kernel) rfl
set_option maxRecDepth 100000 in
theorem q_1319 : Cond.code yX7_most cX7_most 5 (Option.some Jvm.ClassFile.FieldType.int) ∈ TB := TB_at 1319 rfl rfl
theorem q_1317 : Cond.instanceMethod yX7_most ∈ TB := TB_at 1317 (by decide +kernel) rfl
theorem q_1318 : Cond.selects RX7 yX7_most yX7_most ∈ TB := TB_at 1318 (by decide +kernel) rfl
theorem vw_L_90 : VW RL 90 RX7 yX7_most cX7_most 5 (Option.some Jvm.ClassFile.FieldType.int) 0 := ⟨q_1316, q_1317, q_1318, q_89, q_1319, by decide +kernel⟩
set_option maxHeartbeats 4000000 in
set_option maxRecDepth 20000 in
theorem lc_17 {D : va_G} {cs : Nat → ClassId} {base : Nat} {K : (Nat → Nat) × (Nat → Nat) × Nat} {RR : Nat → St → St → Prop} {b L : Nat} {xs : Nat → Int32} {p : Program} {l : Launch} {e : Env} {s : State} {m : MethodId} {args : Array Value} {below : List Frame} {meth : Method} {c : Code} {Q : State → Prop} (hop : ∀ (M : Nat) (σC σM : St) , 53 ≤ M → RR M σC σM → w_X6_most M (fun r u => w_X7_most 20 (fun r2 u2 => r = r2 ∧ RR M u u2)  σM)  σC) (M : Nat) (adC adM : Nat → Nat) (σC σM : St) (H : Heap) (locs : List Loc) (ls : Array Slot) (cells slots i : Nat) (hM : 53 ≤ M) (hR : RR M σC σM) (hc : CX (Gc D cs base K adM σM) p s m args meth c cL_law RL 4) (hw : WH (Gc D cs base K adM σM) YC M adC σC s H locs) (hX : va_X b L xs s s.heap) (hbl : b < s.heap.size) (hbA : b < base) (hi : i + 7 ≤ L) (hL : L ≤ 3584) (hl : lv_has ls 4 [(0, .ref b), (1, .ref (adC 0)), (2, .ref (adM 0)), (3, .int (nI i))]) (hcs : cells + 2 ≤ room_1.cells ∧ slots + 170 ≤ room_1.slots)
    (cont : ∀ (M' : Nat) (adC' : Nat → Nat) (σC' σM' : St) (H : Heap) (locs : List Loc) (ls : Array Slot), 53 ≤ M' → RR M' σC' σM' → WH (Gc D cs base K adM σM') YC M' adC' σC' s H locs → lv_has ls 4 [(0, .ref b), (1, .ref (adC' 0)), (2, .ref (adM 0)), (3, .int (nI i))] → W p l e room_1 s m args below meth c H locs (cells + 2) (slots + 170) Q (F0 m 1577 ls [])) :
    W p l e room_1 s m args below meth c H locs cells slots Q (F0 m 739 ls []) := by
  have hx := hc.1
  have hb := hc.2.1
  refine lv_aload_n hx hb dL_law_739 rfl (lv_at hl 1 rfl) ?_
  refine g_Vi (Γ := Gc D cs base K adM σM) (Y := YC) (ci := 6) (n := 0) (k := 6) (As := []) (rest := []) rfl (by decide) vw_L_87 ⟨Nat.le_of_ble_eq_true rfl, Nat.le_of_ble_eq_true rfl, (Nat.le_trans (Nat.le_add_right cells 2) hcs.1), (Nat.le_trans (Nat.le_add_right slots 170) hcs.2)⟩ hc hw hl.1 (by omega) rfl (m_X6_most l hM  σC (hop M σC σM  hM hR)) rfl rfl (Nat.le_of_ble_eq_true rfl) dL_law_740 (fun r1 u1 H locs h hw => ?_)
  replace hw := WH_swap hw
  have hc2 := CX_swap (M := M) (adC := adC) (σC := u1) hc
  refine lv_aload_n hx hb dL_law_743 rfl (lv_at hl 2 rfl) ?_
  refine g_Vi (Γ := Gm2 D cs base K M adC u1) (Y := YM) (ci := 7) (n := 0) (k := 7) (As := []) (rest := [.int r1]) rfl (by decide) vw_L_90 ⟨Nat.le_of_ble_eq_true rfl, Nat.le_of_ble_eq_true rfl, (Nat.le_trans (Nat.le_add_right cells 2) hcs.1), (Nat.le_trans (Nat.le_add_right slots 170) hcs.2)⟩ hc2 hw hl.1 (by decide) rfl (m_X7_most l (Nat.le_refl 20)  σM h) rfl rfl (Nat.le_of_ble_eq_true rfl) dL_law_744 (fun r2 u2 H locs h hw => ?_)
  obtain ⟨hrr, hR2⟩ := h
  subst hrr
  replace hw := WH_swap2 hw
  refine lv_icmp_eq (tgt := 1577) hx hb dL_law_747 (by decide) (fun _ => ?_) (fun c => absurd rfl c)
  refine W.widen (k := cells + 2) (n := slots + 170) (by omega) (by omega) ?_
  exact cont M adC u1 u2 _ _ _ hM hR2 hw hl
theorem q_767 : Cond.methodLink RL 91 yX6_odds ∈ TB := TB_at 767 (by decide +kernel) rfl
set_option maxRecDepth 100000 in
theorem q_770 : Cond.code yX6_odds cX6_odds 6 (Option.some Jvm.ClassFile.FieldType.long) ∈ TB := TB_at 770 rfl rfl
theorem q_768 : Cond.instanceMethod yX6_odds ∈ TB := TB_at 768 (by decide +kernel) rfl
theorem q_769 : Cond.selects RX6 yX6_odds yX6_odds ∈ TB := TB_at 769 (by decide +kernel) rfl
theorem vw_L_91 : VW RL 91 RX6 yX6_odds cX6_odds 6 (Option.some Jvm.ClassFile.FieldType.long) 2 := ⟨q_767, q_768, q_769, q_75, q_770, by decide +kernel⟩
theorem q_1320 : Cond.methodLink RL 95 yX7_odds ∈ TB := TB_at 1320 (by decide +kernel) rfl
set_option maxRecDepth 100000 in
theorem q_1323 : Cond.code yX7_odds cX7_odds 5 (Option.some Jvm.ClassFile.FieldType.long) ∈ TB := TB_at 1323 rfl rfl
theorem q_1321 : Cond.instanceMethod yX7_odds ∈ TB := TB_at 1321 (by decide +kernel) rfl
theorem q_1322 : Cond.selects RX7 yX7_odds yX7_odds ∈ TB := TB_at 1322 (by decide +kernel) rfl
theorem vw_L_95 : VW RL 95 RX7 yX7_odds cX7_odds 5 (Option.some Jvm.ClassFile.FieldType.long) 2 := ⟨q_1320, q_1321, q_1322, q_89, q_1323, by decide +kernel⟩
set_option maxHeartbeats 4000000 in
set_option maxRecDepth 20000 in
theorem lc_18 {D : va_G} {cs : Nat → ClassId} {base : Nat} {K : (Nat → Nat) × (Nat → Nat) × Nat} {RR : Nat → St → St → Prop} {b L : Nat} {xs : Nat → Int32} {p : Program} {l : Launch} {e : Env} {s : State} {m : MethodId} {args : Array Value} {below : List Frame} {meth : Method} {c : Code} {Q : State → Prop} (hop : ∀ (M : Nat) (σC σM : St) (a1 a2 : Int32) , 53 ≤ M → RR M σC σM → w_X6_odds M (fun r u => w_X7_odds 20 (fun r2 u2 => r = r2 ∧ RR M u u2) a1 a2 σM) a1 a2 σC) (M : Nat) (adC adM : Nat → Nat) (σC σM : St) (H : Heap) (locs : List Loc) (ls : Array Slot) (cells slots i : Nat) (hM : 53 ≤ M) (hR : RR M σC σM) (hc : CX (Gc D cs base K adM σM) p s m args meth c cL_law RL 4) (hw : WH (Gc D cs base K adM σM) YC M adC σC s H locs) (hX : va_X b L xs s s.heap) (hbl : b < s.heap.size) (hbA : b < base) (hi : i + 7 ≤ L) (hL : L ≤ 3584) (hl : lv_has ls 4 [(0, .ref b), (1, .ref (adC 0)), (2, .ref (adM 0)), (3, .int (nI i))]) (hcs : cells + 2 ≤ room_1.cells ∧ slots + 170 ≤ room_1.slots)
    (cont : ∀ (M' : Nat) (adC' : Nat → Nat) (σC' σM' : St) (H : Heap) (locs : List Loc) (ls : Array Slot), 53 ≤ M' → RR M' σC' σM' → WH (Gc D cs base K adM σM') YC M' adC' σC' s H locs → lv_has ls 4 [(0, .ref b), (1, .ref (adC' 0)), (2, .ref (adM 0)), (3, .int (nI i))] → W p l e room_1 s m args below meth c H locs (cells + 2) (slots + 170) Q (F0 m 1577 ls [])) :
    W p l e room_1 s m args below meth c H locs cells slots Q (F0 m 752 ls []) := by
  have hx := hc.1
  have hb := hc.2.1
  refine lv_aload_n hx hb dL_law_752 rfl (lv_at hl 1 rfl) ?_
  refine lv_aload_n hx hb dL_law_753 rfl (lv_at hl 0 rfl) ?_
  refine lv_iload_n hx hb dL_law_754 rfl (lv_at hl 3 rfl) ?_
  refine lv_iconst (v := 1) hx hb dL_law_755 (by decide) ?_
  refine lv_iadd hx hb dL_law_756 ?_
  refine g_scr (k := 1) (i := i) hc hw.2.2 hX hbl hbA (by omega) (by omega) (by rw [← nI_add]; rfl) dL_law_757 ?_
  refine lv_aload_n hx hb dL_law_758 rfl (lv_at hl 0 rfl) ?_
  refine lv_iload_n hx hb dL_law_759 rfl (lv_at hl 3 rfl) ?_
  refine lv_iconst (v := 2) hx hb dL_law_760 (by decide) ?_
  refine lv_iadd hx hb dL_law_761 ?_
  refine g_scr (k := 2) (i := i) hc hw.2.2 hX hbl hbA (by omega) (by omega) (by rw [← nI_add]; rfl) dL_law_762 ?_
  refine g_Vl (Γ := Gc D cs base K adM σM) (Y := YC) (ci := 6) (n := 2) (k := 6) (As := [.int (xs (i + 1)), .int (xs (i + 2))]) (rest := []) rfl (by decide) vw_L_91 ⟨Nat.le_of_ble_eq_true rfl, Nat.le_of_ble_eq_true rfl, (Nat.le_trans (Nat.le_add_right cells 2) hcs.1), (Nat.le_trans (Nat.le_add_right slots 170) hcs.2)⟩ hc hw hl.1 (by omega) rfl (m_X6_odds l hM (xs (i + 1)) (xs (i + 2)) σC (hop M σC σM (xs (i + 1)) (xs (i + 2)) hM hR)) rfl rfl (Nat.le_of_ble_eq_true rfl) dL_law_763 (fun r1 u1 H locs h hw => ?_)
  replace hw := WH_swap hw
  have hc2 := CX_swap (M := M) (adC := adC) (σC := u1) hc
  refine lv_aload_n hx hb dL_law_766 rfl (lv_at hl 2 rfl) ?_
  refine lv_aload_n hx hb dL_law_767 rfl (lv_at hl 0 rfl) ?_
  refine lv_iload_n hx hb dL_law_768 rfl (lv_at hl 3 rfl) ?_
  refine lv_iconst (v := 1) hx hb dL_law_769 (by decide) ?_
  refine lv_iadd hx hb dL_law_770 ?_
  refine g_scr (k := 1) (i := i) hc2 hw.2.2 hX hbl hbA (by omega) (by omega) (by rw [← nI_add]; rfl) dL_law_771 ?_
  refine lv_aload_n hx hb dL_law_772 rfl (lv_at hl 0 rfl) ?_
  refine lv_iload_n hx hb dL_law_773 rfl (lv_at hl 3 rfl) ?_
  refine lv_iconst (v := 2) hx hb dL_law_774 (by decide) ?_
  refine lv_iadd hx hb dL_law_775 ?_
  refine g_scr (k := 2) (i := i) hc2 hw.2.2 hX hbl hbA (by omega) (by omega) (by rw [← nI_add]; rfl) dL_law_776 ?_
  refine g_Vl (Γ := Gm2 D cs base K M adC u1) (Y := YM) (ci := 7) (n := 2) (k := 8) (As := [.int (xs (i + 1)), .int (xs (i + 2))]) (rest := [.long r1]) rfl (by decide) vw_L_95 ⟨Nat.le_of_ble_eq_true rfl, Nat.le_of_ble_eq_true rfl, (Nat.le_trans (Nat.le_add_right cells 2) hcs.1), (Nat.le_trans (Nat.le_add_right slots 170) hcs.2)⟩ hc2 hw hl.1 (by decide) rfl (m_X7_odds l (Nat.le_refl 20) (xs (i + 1)) (xs (i + 2)) σM h) rfl rfl (Nat.le_of_ble_eq_true rfl) dL_law_777 (fun r2 u2 H locs h hw => ?_)
  obtain ⟨hrr, hR2⟩ := h
  subst hrr
  replace hw := WH_swap2 hw
  refine W.lcmp hx hb dL_law_780 ?_
  rw [lg_same]
  refine lv_if_eq (tgt := 1577) hx hb dL_law_781 (by decide) (fun _ => ?_) (fun c => absurd rfl c)
  refine W.widen (k := cells + 2) (n := slots + 170) (by omega) (by omega) ?_
  exact cont M adC u1 u2 _ _ _ hM hR2 hw hl
theorem q_777 : Cond.methodLink RL 96 yX6_save ∈ TB := TB_at 777 (by decide +kernel) rfl
set_option maxRecDepth 100000 in
theorem q_780 : Cond.code yX6_save cX6_save 8 (Option.some Jvm.ClassFile.FieldType.int) ∈ TB := TB_at 780 rfl rfl
theorem q_778 : Cond.instanceMethod yX6_save ∈ TB := TB_at 778 (by decide +kernel) rfl
theorem q_779 : Cond.selects RX6 yX6_save yX6_save ∈ TB := TB_at 779 (by decide +kernel) rfl
theorem vw_L_96 : VW RL 96 RX6 yX6_save cX6_save 8 (Option.some Jvm.ClassFile.FieldType.int) 3 := ⟨q_777, q_778, q_779, q_75, q_780, by decide +kernel⟩
theorem q_1328 : Cond.methodLink RL 99 yX7_save ∈ TB := TB_at 1328 (by decide +kernel) rfl
set_option maxRecDepth 100000 in
theorem q_1331 : Cond.code yX7_save cX7_save 8 (Option.some Jvm.ClassFile.FieldType.int) ∈ TB := TB_at 1331 rfl rfl
theorem q_1329 : Cond.instanceMethod yX7_save ∈ TB := TB_at 1329 (by decide +kernel) rfl
theorem q_1330 : Cond.selects RX7 yX7_save yX7_save ∈ TB := TB_at 1330 (by decide +kernel) rfl
theorem vw_L_99 : VW RL 99 RX7 yX7_save cX7_save 8 (Option.some Jvm.ClassFile.FieldType.int) 3 := ⟨q_1328, q_1329, q_1330, q_89, q_1331, by decide +kernel⟩
set_option maxHeartbeats 4000000 in
set_option maxRecDepth 20000 in
theorem lc_19 {D : va_G} {cs : Nat → ClassId} {base : Nat} {K : (Nat → Nat) × (Nat → Nat) × Nat} {RR : Nat → St → St → Prop} {b L : Nat} {xs : Nat → Int32} {p : Program} {l : Launch} {e : Env} {s : State} {m : MethodId} {args : Array Value} {below : List Frame} {meth : Method} {c : Code} {Q : State → Prop} (hop : ∀ (M : Nat) (σC σM : St) (a1 a2 a3 : Int32) , 53 ≤ M → RR M σC σM → w_X6_save M (fun r u => w_X7_save 20 (fun r2 u2 => r = r2 ∧ RR M u u2) a1 a2 a3 σM) a1 a2 a3 σC) (M : Nat) (adC adM : Nat → Nat) (σC σM : St) (H : Heap) (locs : List Loc) (ls : Array Slot) (cells slots i : Nat) (hM : 53 ≤ M) (hR : RR M σC σM) (hc : CX (Gc D cs base K adM σM) p s m args meth c cL_law RL 4) (hw : WH (Gc D cs base K adM σM) YC M adC σC s H locs) (hX : va_X b L xs s s.heap) (hbl : b < s.heap.size) (hbA : b < base) (hi : i + 7 ≤ L) (hL : L ≤ 3584) (hl : lv_has ls 4 [(0, .ref b), (1, .ref (adC 0)), (2, .ref (adM 0)), (3, .int (nI i))]) (hcs : cells + 2 ≤ room_1.cells ∧ slots + 170 ≤ room_1.slots)
    (cont : ∀ (M' : Nat) (adC' : Nat → Nat) (σC' σM' : St) (H : Heap) (locs : List Loc) (ls : Array Slot), 53 ≤ M' → RR M' σC' σM' → WH (Gc D cs base K adM σM') YC M' adC' σC' s H locs → lv_has ls 4 [(0, .ref b), (1, .ref (adC' 0)), (2, .ref (adM 0)), (3, .int (nI i))] → W p l e room_1 s m args below meth c H locs (cells + 2) (slots + 170) Q (F0 m 1577 ls [])) :
    W p l e room_1 s m args below meth c H locs cells slots Q (F0 m 786 ls []) := by
  have hx := hc.1
  have hb := hc.2.1
  refine lv_aload_n hx hb dL_law_786 rfl (lv_at hl 1 rfl) ?_
  refine lv_aload_n hx hb dL_law_787 rfl (lv_at hl 0 rfl) ?_
  refine lv_iload_n hx hb dL_law_788 rfl (lv_at hl 3 rfl) ?_
  refine lv_iconst (v := 1) hx hb dL_law_789 (by decide) ?_
  refine lv_iadd hx hb dL_law_790 ?_
  refine g_scr (k := 1) (i := i) hc hw.2.2 hX hbl hbA (by omega) (by omega) (by rw [← nI_add]; rfl) dL_law_791 ?_
  refine lv_aload_n hx hb dL_law_792 rfl (lv_at hl 0 rfl) ?_
  refine lv_iload_n hx hb dL_law_793 rfl (lv_at hl 3 rfl) ?_
  refine lv_iconst (v := 2) hx hb dL_law_794 (by decide) ?_
  refine lv_iadd hx hb dL_law_795 ?_
  refine g_scr (k := 2) (i := i) hc hw.2.2 hX hbl hbA (by omega) (by omega) (by rw [← nI_add]; rfl) dL_law_796 ?_
  refine lv_aload_n hx hb dL_law_797 rfl (lv_at hl 0 rfl) ?_
  refine lv_iload_n hx hb dL_law_798 rfl (lv_at hl 3 rfl) ?_
  refine lv_iconst (v := 3) hx hb dL_law_799 (by decide) ?_
  refine lv_iadd hx hb dL_law_800 ?_
  refine g_scr (k := 3) (i := i) hc hw.2.2 hX hbl hbA (by omega) (by omega) (by rw [← nI_add]; rfl) dL_law_801 ?_
  refine g_Vi (Γ := Gc D cs base K adM σM) (Y := YC) (ci := 6) (n := 3) (k := 6) (As := [.int (xs (i + 1)), .int (xs (i + 2)), .int (xs (i + 3))]) (rest := []) rfl (by decide) vw_L_96 ⟨Nat.le_of_ble_eq_true rfl, Nat.le_of_ble_eq_true rfl, (Nat.le_trans (Nat.le_add_right cells 2) hcs.1), (Nat.le_trans (Nat.le_add_right slots 170) hcs.2)⟩ hc hw hl.1 (by omega) rfl (m_X6_save l hM (xs (i + 1)) (xs (i + 2)) (xs (i + 3)) σC (hop M σC σM (xs (i + 1)) (xs (i + 2)) (xs (i + 3)) hM hR)) rfl rfl (Nat.le_of_ble_eq_true rfl) dL_law_802 (fun r1 u1 H locs h hw => ?_)
  replace hw := WH_swap hw
  have hc2 := CX_swap (M := M) (adC := adC) (σC := u1) hc
  refine lv_aload_n hx hb dL_law_805 rfl (lv_at hl 2 rfl) ?_
  refine lv_aload_n hx hb dL_law_806 rfl (lv_at hl 0 rfl) ?_
  refine lv_iload_n hx hb dL_law_807 rfl (lv_at hl 3 rfl) ?_
  refine lv_iconst (v := 1) hx hb dL_law_808 (by decide) ?_
  refine lv_iadd hx hb dL_law_809 ?_
  refine g_scr (k := 1) (i := i) hc2 hw.2.2 hX hbl hbA (by omega) (by omega) (by rw [← nI_add]; rfl) dL_law_810 ?_
  refine lv_aload_n hx hb dL_law_811 rfl (lv_at hl 0 rfl) ?_
  refine lv_iload_n hx hb dL_law_812 rfl (lv_at hl 3 rfl) ?_
  refine lv_iconst (v := 2) hx hb dL_law_813 (by decide) ?_
  refine lv_iadd hx hb dL_law_814 ?_
  refine g_scr (k := 2) (i := i) hc2 hw.2.2 hX hbl hbA (by omega) (by omega) (by rw [← nI_add]; rfl) dL_law_815 ?_
  refine lv_aload_n hx hb dL_law_816 rfl (lv_at hl 0 rfl) ?_
  refine lv_iload_n hx hb dL_law_817 rfl (lv_at hl 3 rfl) ?_
  refine lv_iconst (v := 3) hx hb dL_law_818 (by decide) ?_
  refine lv_iadd hx hb dL_law_819 ?_
  refine g_scr (k := 3) (i := i) hc2 hw.2.2 hX hbl hbA (by omega) (by omega) (by rw [← nI_add]; rfl) dL_law_820 ?_
  refine g_Vi (Γ := Gm2 D cs base K M adC u1) (Y := YM) (ci := 7) (n := 3) (k := 6) (As := [.int (xs (i + 1)), .int (xs (i + 2)), .int (xs (i + 3))]) (rest := [.int r1]) rfl (by decide) vw_L_99 ⟨Nat.le_of_ble_eq_true rfl, Nat.le_of_ble_eq_true rfl, (Nat.le_trans (Nat.le_add_right cells 2) hcs.1), (Nat.le_trans (Nat.le_add_right slots 170) hcs.2)⟩ hc2 hw hl.1 (by decide) rfl (m_X7_save l (Nat.le_refl 20) (xs (i + 1)) (xs (i + 2)) (xs (i + 3)) σM h) rfl rfl (Nat.le_of_ble_eq_true rfl) dL_law_821 (fun r2 u2 H locs h hw => ?_)
  obtain ⟨hrr, hR2⟩ := h
  subst hrr
  replace hw := WH_swap2 hw
  refine lv_icmp_eq (tgt := 1577) hx hb dL_law_824 (by decide) (fun _ => ?_) (fun c => absurd rfl c)
  refine W.widen (k := cells + 2) (n := slots + 170) (by omega) (by omega) ?_
  exact cont M adC u1 u2 _ _ _ hM hR2 hw hl
theorem q_785 : Cond.methodLink RL 100 yX6_why ∈ TB := TB_at 785 (by decide +kernel) rfl
set_option maxRecDepth 100000 in
theorem q_788 : Cond.code yX6_why cX6_why 3 (Option.some Jvm.ClassFile.FieldType.int) ∈ TB := TB_at 788 rfl rfl
theorem q_786 : Cond.instanceMethod yX6_why ∈ TB := TB_at 786 (by decide +kernel) rfl
theorem q_787 : Cond.selects RX6 yX6_why yX6_why ∈ TB := TB_at 787 (by decide +kernel) rfl
theorem vw_L_100 : VW RL 100 RX6 yX6_why cX6_why 3 (Option.some Jvm.ClassFile.FieldType.int) 1 := ⟨q_785, q_786, q_787, q_75, q_788, by decide +kernel⟩
theorem q_1332 : Cond.methodLink RL 103 yX7_why ∈ TB := TB_at 1332 (by decide +kernel) rfl
set_option maxRecDepth 100000 in
theorem q_1335 : Cond.code yX7_why cX7_why 4 (Option.some Jvm.ClassFile.FieldType.int) ∈ TB := TB_at 1335 rfl rfl
theorem q_1333 : Cond.instanceMethod yX7_why ∈ TB := TB_at 1333 (by decide +kernel) rfl
theorem q_1334 : Cond.selects RX7 yX7_why yX7_why ∈ TB := TB_at 1334 (by decide +kernel) rfl
theorem vw_L_103 : VW RL 103 RX7 yX7_why cX7_why 4 (Option.some Jvm.ClassFile.FieldType.int) 1 := ⟨q_1332, q_1333, q_1334, q_89, q_1335, by decide +kernel⟩
set_option maxHeartbeats 4000000 in
set_option maxRecDepth 20000 in
theorem lc_20 {D : va_G} {cs : Nat → ClassId} {base : Nat} {K : (Nat → Nat) × (Nat → Nat) × Nat} {RR : Nat → St → St → Prop} {b L : Nat} {xs : Nat → Int32} {p : Program} {l : Launch} {e : Env} {s : State} {m : MethodId} {args : Array Value} {below : List Frame} {meth : Method} {c : Code} {Q : State → Prop} (hop : ∀ (M : Nat) (σC σM : St) (a1 : Int32) , 53 ≤ M → RR M σC σM → w_X6_why M (fun r u => w_X7_why 20 (fun r2 u2 => r = r2 ∧ RR M u u2) a1 σM) a1 σC) (M : Nat) (adC adM : Nat → Nat) (σC σM : St) (H : Heap) (locs : List Loc) (ls : Array Slot) (cells slots i : Nat) (hM : 53 ≤ M) (hR : RR M σC σM) (hc : CX (Gc D cs base K adM σM) p s m args meth c cL_law RL 4) (hw : WH (Gc D cs base K adM σM) YC M adC σC s H locs) (hX : va_X b L xs s s.heap) (hbl : b < s.heap.size) (hbA : b < base) (hi : i + 7 ≤ L) (hL : L ≤ 3584) (hl : lv_has ls 4 [(0, .ref b), (1, .ref (adC 0)), (2, .ref (adM 0)), (3, .int (nI i))]) (hcs : cells + 2 ≤ room_1.cells ∧ slots + 170 ≤ room_1.slots)
    (cont : ∀ (M' : Nat) (adC' : Nat → Nat) (σC' σM' : St) (H : Heap) (locs : List Loc) (ls : Array Slot), 53 ≤ M' → RR M' σC' σM' → WH (Gc D cs base K adM σM') YC M' adC' σC' s H locs → lv_has ls 4 [(0, .ref b), (1, .ref (adC' 0)), (2, .ref (adM 0)), (3, .int (nI i))] → W p l e room_1 s m args below meth c H locs (cells + 2) (slots + 170) Q (F0 m 1577 ls [])) :
    W p l e room_1 s m args below meth c H locs cells slots Q (F0 m 829 ls []) := by
  have hx := hc.1
  have hb := hc.2.1
  refine lv_aload_n hx hb dL_law_829 rfl (lv_at hl 1 rfl) ?_
  refine lv_aload_n hx hb dL_law_830 rfl (lv_at hl 0 rfl) ?_
  refine lv_iload_n hx hb dL_law_831 rfl (lv_at hl 3 rfl) ?_
  refine lv_iconst (v := 1) hx hb dL_law_832 (by decide) ?_
  refine lv_iadd hx hb dL_law_833 ?_
  refine g_scr (k := 1) (i := i) hc hw.2.2 hX hbl hbA (by omega) (by omega) (by rw [← nI_add]; rfl) dL_law_834 ?_
  refine g_Vi (Γ := Gc D cs base K adM σM) (Y := YC) (ci := 6) (n := 1) (k := 6) (As := [.int (xs (i + 1))]) (rest := []) rfl (by decide) vw_L_100 ⟨Nat.le_of_ble_eq_true rfl, Nat.le_of_ble_eq_true rfl, (Nat.le_trans (Nat.le_add_right cells 2) hcs.1), (Nat.le_trans (Nat.le_add_right slots 170) hcs.2)⟩ hc hw hl.1 (by omega) rfl (m_X6_why l hM (xs (i + 1)) σC (hop M σC σM (xs (i + 1)) hM hR)) rfl rfl (Nat.le_of_ble_eq_true rfl) dL_law_835 (fun r1 u1 H locs h hw => ?_)
  replace hw := WH_swap hw
  have hc2 := CX_swap (M := M) (adC := adC) (σC := u1) hc
  refine lv_aload_n hx hb dL_law_838 rfl (lv_at hl 2 rfl) ?_
  refine lv_aload_n hx hb dL_law_839 rfl (lv_at hl 0 rfl) ?_
  refine lv_iload_n hx hb dL_law_840 rfl (lv_at hl 3 rfl) ?_
  refine lv_iconst (v := 1) hx hb dL_law_841 (by decide) ?_
  refine lv_iadd hx hb dL_law_842 ?_
  refine g_scr (k := 1) (i := i) hc2 hw.2.2 hX hbl hbA (by omega) (by omega) (by rw [← nI_add]; rfl) dL_law_843 ?_
  refine g_Vi (Γ := Gm2 D cs base K M adC u1) (Y := YM) (ci := 7) (n := 1) (k := 6) (As := [.int (xs (i + 1))]) (rest := [.int r1]) rfl (by decide) vw_L_103 ⟨Nat.le_of_ble_eq_true rfl, Nat.le_of_ble_eq_true rfl, (Nat.le_trans (Nat.le_add_right cells 2) hcs.1), (Nat.le_trans (Nat.le_add_right slots 170) hcs.2)⟩ hc2 hw hl.1 (by decide) rfl (m_X7_why l (Nat.le_refl 20) (xs (i + 1)) σM h) rfl rfl (Nat.le_of_ble_eq_true rfl) dL_law_844 (fun r2 u2 H locs h hw => ?_)
  obtain ⟨hrr, hR2⟩ := h
  subst hrr
  replace hw := WH_swap2 hw
  refine lv_icmp_eq (tgt := 1577) hx hb dL_law_847 (by decide) (fun _ => ?_) (fun c => absurd rfl c)
  refine W.widen (k := cells + 2) (n := slots + 170) (by omega) (by omega) ?_
  exact cont M adC u1 u2 _ _ _ hM hR2 hw hl
theorem q_789 : Cond.methodLink RL 104 yX6_order ∈ TB := TB_at 789 (by decide +kernel) rfl
set_option maxRecDepth 100000 in
theorem q_792 : Cond.code yX6_order cX6_order 5 (Option.some Jvm.ClassFile.FieldType.int) ∈ TB := TB_at 792 rfl rfl
theorem q_790 : Cond.instanceMethod yX6_order ∈ TB := TB_at 790 (by decide +kernel) rfl
theorem q_791 : Cond.selects RX6 yX6_order yX6_order ∈ TB := TB_at 791 (by decide +kernel) rfl
theorem vw_L_104 : VW RL 104 RX6 yX6_order cX6_order 5 (Option.some Jvm.ClassFile.FieldType.int) 1 := ⟨q_789, q_790, q_791, q_75, q_792, by decide +kernel⟩
theorem q_1336 : Cond.methodLink RL 107 yX7_order ∈ TB := TB_at 1336 (by decide +kernel) rfl
set_option maxRecDepth 100000 in
theorem q_1339 : Cond.code yX7_order cX7_order 6 (Option.some Jvm.ClassFile.FieldType.int) ∈ TB := TB_at 1339 rfl rfl
theorem q_1337 : Cond.instanceMethod yX7_order ∈ TB := TB_at 1337 (by decide +kernel) rfl
theorem q_1338 : Cond.selects RX7 yX7_order yX7_order ∈ TB := TB_at 1338 (by decide +kernel) rfl
theorem vw_L_107 : VW RL 107 RX7 yX7_order cX7_order 6 (Option.some Jvm.ClassFile.FieldType.int) 1 := ⟨q_1336, q_1337, q_1338, q_89, q_1339, by decide +kernel⟩
set_option maxHeartbeats 4000000 in
set_option maxRecDepth 20000 in
theorem lc_21 {D : va_G} {cs : Nat → ClassId} {base : Nat} {K : (Nat → Nat) × (Nat → Nat) × Nat} {RR : Nat → St → St → Prop} {b L : Nat} {xs : Nat → Int32} {p : Program} {l : Launch} {e : Env} {s : State} {m : MethodId} {args : Array Value} {below : List Frame} {meth : Method} {c : Code} {Q : State → Prop} (hop : ∀ (M : Nat) (σC σM : St) (a1 : Int32) , 53 ≤ M → RR M σC σM → w_X6_order M (fun r u => w_X7_order 20 (fun r2 u2 => r = r2 ∧ RR M u u2) a1 σM) a1 σC) (M : Nat) (adC adM : Nat → Nat) (σC σM : St) (H : Heap) (locs : List Loc) (ls : Array Slot) (cells slots i : Nat) (hM : 53 ≤ M) (hR : RR M σC σM) (hc : CX (Gc D cs base K adM σM) p s m args meth c cL_law RL 4) (hw : WH (Gc D cs base K adM σM) YC M adC σC s H locs) (hX : va_X b L xs s s.heap) (hbl : b < s.heap.size) (hbA : b < base) (hi : i + 7 ≤ L) (hL : L ≤ 3584) (hl : lv_has ls 4 [(0, .ref b), (1, .ref (adC 0)), (2, .ref (adM 0)), (3, .int (nI i))]) (hcs : cells + 2 ≤ room_1.cells ∧ slots + 170 ≤ room_1.slots)
    (cont : ∀ (M' : Nat) (adC' : Nat → Nat) (σC' σM' : St) (H : Heap) (locs : List Loc) (ls : Array Slot), 53 ≤ M' → RR M' σC' σM' → WH (Gc D cs base K adM σM') YC M' adC' σC' s H locs → lv_has ls 4 [(0, .ref b), (1, .ref (adC' 0)), (2, .ref (adM 0)), (3, .int (nI i))] → W p l e room_1 s m args below meth c H locs (cells + 2) (slots + 170) Q (F0 m 1577 ls [])) :
    W p l e room_1 s m args below meth c H locs cells slots Q (F0 m 852 ls []) := by
  have hx := hc.1
  have hb := hc.2.1
  refine lv_aload_n hx hb dL_law_852 rfl (lv_at hl 1 rfl) ?_
  refine lv_aload_n hx hb dL_law_853 rfl (lv_at hl 0 rfl) ?_
  refine lv_iload_n hx hb dL_law_854 rfl (lv_at hl 3 rfl) ?_
  refine lv_iconst (v := 1) hx hb dL_law_855 (by decide) ?_
  refine lv_iadd hx hb dL_law_856 ?_
  refine g_scr (k := 1) (i := i) hc hw.2.2 hX hbl hbA (by omega) (by omega) (by rw [← nI_add]; rfl) dL_law_857 ?_
  refine g_Vi (Γ := Gc D cs base K adM σM) (Y := YC) (ci := 6) (n := 1) (k := 6) (As := [.int (xs (i + 1))]) (rest := []) rfl (by decide) vw_L_104 ⟨Nat.le_of_ble_eq_true rfl, Nat.le_of_ble_eq_true rfl, (Nat.le_trans (Nat.le_add_right cells 2) hcs.1), (Nat.le_trans (Nat.le_add_right slots 170) hcs.2)⟩ hc hw hl.1 (by omega) rfl (m_X6_order l hM (xs (i + 1)) σC (hop M σC σM (xs (i + 1)) hM hR)) rfl rfl (Nat.le_of_ble_eq_true rfl) dL_law_858 (fun r1 u1 H locs h hw => ?_)
  replace hw := WH_swap hw
  have hc2 := CX_swap (M := M) (adC := adC) (σC := u1) hc
  refine lv_aload_n hx hb dL_law_861 rfl (lv_at hl 2 rfl) ?_
  refine lv_aload_n hx hb dL_law_862 rfl (lv_at hl 0 rfl) ?_
  refine lv_iload_n hx hb dL_law_863 rfl (lv_at hl 3 rfl) ?_
  refine lv_iconst (v := 1) hx hb dL_law_864 (by decide) ?_
  refine lv_iadd hx hb dL_law_865 ?_
  refine g_scr (k := 1) (i := i) hc2 hw.2.2 hX hbl hbA (by omega) (by omega) (by rw [← nI_add]; rfl) dL_law_866 ?_
  refine g_Vi (Γ := Gm2 D cs base K M adC u1) (Y := YM) (ci := 7) (n := 1) (k := 6) (As := [.int (xs (i + 1))]) (rest := [.int r1]) rfl (by decide) vw_L_107 ⟨Nat.le_of_ble_eq_true rfl, Nat.le_of_ble_eq_true rfl, (Nat.le_trans (Nat.le_add_right cells 2) hcs.1), (Nat.le_trans (Nat.le_add_right slots 170) hcs.2)⟩ hc2 hw hl.1 (by decide) rfl (m_X7_order l (Nat.le_refl 20) (xs (i + 1)) σM h) rfl rfl (Nat.le_of_ble_eq_true rfl) dL_law_867 (fun r2 u2 H locs h hw => ?_)
  obtain ⟨hrr, hR2⟩ := h
  subst hrr
  replace hw := WH_swap2 hw
  refine lv_icmp_eq (tgt := 1577) hx hb dL_law_870 (by decide) (fun _ => ?_) (fun c => absurd rfl c)
  refine W.widen (k := cells + 2) (n := slots + 170) (by omega) (by omega) ?_
  exact cont M adC u1 u2 _ _ _ hM hR2 hw hl
theorem q_793 : Cond.methodLink RL 108 yX6_strokes ∈ TB := TB_at 793 (by decide +kernel) rfl
set_option maxRecDepth 100000 in
theorem q_796 : Cond.code yX6_strokes cX6_strokes 4 (Option.some Jvm.ClassFile.FieldType.int) ∈ TB := TB_at 796 rfl rfl
theorem q_794 : Cond.instanceMethod yX6_strokes ∈ TB := TB_at 794 (by decide +kernel) rfl
theorem q_795 : Cond.selects RX6 yX6_strokes yX6_strokes ∈ TB := TB_at 795 (by decide +kernel) rfl
theorem vw_L_108 : VW RL 108 RX6 yX6_strokes cX6_strokes 4 (Option.some Jvm.ClassFile.FieldType.int) 2 := ⟨q_793, q_794, q_795, q_75, q_796, by decide +kernel⟩
theorem q_1340 : Cond.methodLink RL 111 yX7_strokes ∈ TB := TB_at 1340 (by decide +kernel) rfl
set_option maxRecDepth 100000 in
theorem q_1343 : Cond.code yX7_strokes cX7_strokes 4 (Option.some Jvm.ClassFile.FieldType.int) ∈ TB := TB_at 1343 rfl rfl
theorem q_1341 : Cond.instanceMethod yX7_strokes ∈ TB := TB_at 1341 (by decide +kernel) rfl
theorem q_1342 : Cond.selects RX7 yX7_strokes yX7_strokes ∈ TB := TB_at 1342 (by decide +kernel) rfl
theorem vw_L_111 : VW RL 111 RX7 yX7_strokes cX7_strokes 4 (Option.some Jvm.ClassFile.FieldType.int) 2 := ⟨q_1340, q_1341, q_1342, q_89, q_1343, by decide +kernel⟩
set_option maxHeartbeats 4000000 in
set_option maxRecDepth 20000 in
theorem lc_22 {D : va_G} {cs : Nat → ClassId} {base : Nat} {K : (Nat → Nat) × (Nat → Nat) × Nat} {RR : Nat → St → St → Prop} {b L : Nat} {xs : Nat → Int32} {p : Program} {l : Launch} {e : Env} {s : State} {m : MethodId} {args : Array Value} {below : List Frame} {meth : Method} {c : Code} {Q : State → Prop} (hop : ∀ (M : Nat) (σC σM : St) (a1 a2 : Int32) , 53 ≤ M → RR M σC σM → w_X6_strokes M (fun r u => w_X7_strokes 20 (fun r2 u2 => r = r2 ∧ RR M u u2) a1 a2 σM) a1 a2 σC) (M : Nat) (adC adM : Nat → Nat) (σC σM : St) (H : Heap) (locs : List Loc) (ls : Array Slot) (cells slots i : Nat) (hM : 53 ≤ M) (hR : RR M σC σM) (hc : CX (Gc D cs base K adM σM) p s m args meth c cL_law RL 4) (hw : WH (Gc D cs base K adM σM) YC M adC σC s H locs) (hX : va_X b L xs s s.heap) (hbl : b < s.heap.size) (hbA : b < base) (hi : i + 7 ≤ L) (hL : L ≤ 3584) (hl : lv_has ls 4 [(0, .ref b), (1, .ref (adC 0)), (2, .ref (adM 0)), (3, .int (nI i))]) (hcs : cells + 2 ≤ room_1.cells ∧ slots + 170 ≤ room_1.slots)
    (cont : ∀ (M' : Nat) (adC' : Nat → Nat) (σC' σM' : St) (H : Heap) (locs : List Loc) (ls : Array Slot), 53 ≤ M' → RR M' σC' σM' → WH (Gc D cs base K adM σM') YC M' adC' σC' s H locs → lv_has ls 4 [(0, .ref b), (1, .ref (adC' 0)), (2, .ref (adM 0)), (3, .int (nI i))] → W p l e room_1 s m args below meth c H locs (cells + 2) (slots + 170) Q (F0 m 1577 ls [])) :
    W p l e room_1 s m args below meth c H locs cells slots Q (F0 m 875 ls []) := by
  have hx := hc.1
  have hb := hc.2.1
  refine lv_aload_n hx hb dL_law_875 rfl (lv_at hl 1 rfl) ?_
  refine lv_aload_n hx hb dL_law_876 rfl (lv_at hl 0 rfl) ?_
  refine lv_iload_n hx hb dL_law_877 rfl (lv_at hl 3 rfl) ?_
  refine lv_iconst (v := 1) hx hb dL_law_878 (by decide) ?_
  refine lv_iadd hx hb dL_law_879 ?_
  refine g_scr (k := 1) (i := i) hc hw.2.2 hX hbl hbA (by omega) (by omega) (by rw [← nI_add]; rfl) dL_law_880 ?_
  refine lv_aload_n hx hb dL_law_881 rfl (lv_at hl 0 rfl) ?_
  refine lv_iload_n hx hb dL_law_882 rfl (lv_at hl 3 rfl) ?_
  refine lv_iconst (v := 2) hx hb dL_law_883 (by decide) ?_
  refine lv_iadd hx hb dL_law_884 ?_
  refine g_scr (k := 2) (i := i) hc hw.2.2 hX hbl hbA (by omega) (by omega) (by rw [← nI_add]; rfl) dL_law_885 ?_
  refine g_Vi (Γ := Gc D cs base K adM σM) (Y := YC) (ci := 6) (n := 2) (k := 6) (As := [.int (xs (i + 1)), .int (xs (i + 2))]) (rest := []) rfl (by decide) vw_L_108 ⟨Nat.le_of_ble_eq_true rfl, Nat.le_of_ble_eq_true rfl, (Nat.le_trans (Nat.le_add_right cells 2) hcs.1), (Nat.le_trans (Nat.le_add_right slots 170) hcs.2)⟩ hc hw hl.1 (by omega) rfl (m_X6_strokes l hM (xs (i + 1)) (xs (i + 2)) σC (hop M σC σM (xs (i + 1)) (xs (i + 2)) hM hR)) rfl rfl (Nat.le_of_ble_eq_true rfl) dL_law_886 (fun r1 u1 H locs h hw => ?_)
  replace hw := WH_swap hw
  have hc2 := CX_swap (M := M) (adC := adC) (σC := u1) hc
  refine lv_aload_n hx hb dL_law_889 rfl (lv_at hl 2 rfl) ?_
  refine lv_aload_n hx hb dL_law_890 rfl (lv_at hl 0 rfl) ?_
  refine lv_iload_n hx hb dL_law_891 rfl (lv_at hl 3 rfl) ?_
  refine lv_iconst (v := 1) hx hb dL_law_892 (by decide) ?_
  refine lv_iadd hx hb dL_law_893 ?_
  refine g_scr (k := 1) (i := i) hc2 hw.2.2 hX hbl hbA (by omega) (by omega) (by rw [← nI_add]; rfl) dL_law_894 ?_
  refine lv_aload_n hx hb dL_law_895 rfl (lv_at hl 0 rfl) ?_
  refine lv_iload_n hx hb dL_law_896 rfl (lv_at hl 3 rfl) ?_
  refine lv_iconst (v := 2) hx hb dL_law_897 (by decide) ?_
  refine lv_iadd hx hb dL_law_898 ?_
  refine g_scr (k := 2) (i := i) hc2 hw.2.2 hX hbl hbA (by omega) (by omega) (by rw [← nI_add]; rfl) dL_law_899 ?_
  refine g_Vi (Γ := Gm2 D cs base K M adC u1) (Y := YM) (ci := 7) (n := 2) (k := 6) (As := [.int (xs (i + 1)), .int (xs (i + 2))]) (rest := [.int r1]) rfl (by decide) vw_L_111 ⟨Nat.le_of_ble_eq_true rfl, Nat.le_of_ble_eq_true rfl, (Nat.le_trans (Nat.le_add_right cells 2) hcs.1), (Nat.le_trans (Nat.le_add_right slots 170) hcs.2)⟩ hc2 hw hl.1 (by decide) rfl (m_X7_strokes l (Nat.le_refl 20) (xs (i + 1)) (xs (i + 2)) σM h) rfl rfl (Nat.le_of_ble_eq_true rfl) dL_law_900 (fun r2 u2 H locs h hw => ?_)
  obtain ⟨hrr, hR2⟩ := h
  subst hrr
  replace hw := WH_swap2 hw
  refine lv_icmp_eq (tgt := 1577) hx hb dL_law_903 (by decide) (fun _ => ?_) (fun c => absurd rfl c)
  refine W.widen (k := cells + 2) (n := slots + 170) (by omega) (by omega) ?_
  exact cont M adC u1 u2 _ _ _ hM hR2 hw hl
theorem q_798 : Cond.methodLink RL 112 yX6_mix ∈ TB := TB_at 798 (by decide +kernel) rfl
set_option maxRecDepth 100000 in
theorem q_801 : Cond.code yX6_mix cX6_mix 13 (Option.some Jvm.ClassFile.FieldType.int) ∈ TB := TB_at 801 rfl rfl
theorem q_799 : Cond.instanceMethod yX6_mix ∈ TB := TB_at 799 (by decide +kernel) rfl
theorem q_800 : Cond.selects RX6 yX6_mix yX6_mix ∈ TB := TB_at 800 (by decide +kernel) rfl
theorem vw_L_112 : VW RL 112 RX6 yX6_mix cX6_mix 13 (Option.some Jvm.ClassFile.FieldType.int) 3 := ⟨q_798, q_799, q_800, q_75, q_801, by decide +kernel⟩
theorem q_1344 : Cond.methodLink RL 115 yX7_mix ∈ TB := TB_at 1344 (by decide +kernel) rfl
set_option maxRecDepth 100000 in
theorem q_1347 : Cond.code yX7_mix cX7_mix 9 (Option.some Jvm.ClassFile.FieldType.int) ∈ TB := TB_at 1347 rfl rfl
theorem q_1345 : Cond.instanceMethod yX7_mix ∈ TB := TB_at 1345 (by decide +kernel) rfl
theorem q_1346 : Cond.selects RX7 yX7_mix yX7_mix ∈ TB := TB_at 1346 (by decide +kernel) rfl
theorem vw_L_115 : VW RL 115 RX7 yX7_mix cX7_mix 9 (Option.some Jvm.ClassFile.FieldType.int) 3 := ⟨q_1344, q_1345, q_1346, q_89, q_1347, by decide +kernel⟩
set_option maxHeartbeats 4000000 in
set_option maxRecDepth 20000 in
theorem lc_23 {D : va_G} {cs : Nat → ClassId} {base : Nat} {K : (Nat → Nat) × (Nat → Nat) × Nat} {RR : Nat → St → St → Prop} {b L : Nat} {xs : Nat → Int32} {p : Program} {l : Launch} {e : Env} {s : State} {m : MethodId} {args : Array Value} {below : List Frame} {meth : Method} {c : Code} {Q : State → Prop} (hop : ∀ (M : Nat) (σC σM : St) (a1 a2 a3 : Int32) , 53 ≤ M → RR M σC σM → w_X6_mix M (fun r u => w_X7_mix 20 (fun r2 u2 => r = r2 ∧ RR M u u2) a1 a2 a3 σM) a1 a2 a3 σC) (M : Nat) (adC adM : Nat → Nat) (σC σM : St) (H : Heap) (locs : List Loc) (ls : Array Slot) (cells slots i : Nat) (hM : 53 ≤ M) (hR : RR M σC σM) (hc : CX (Gc D cs base K adM σM) p s m args meth c cL_law RL 4) (hw : WH (Gc D cs base K adM σM) YC M adC σC s H locs) (hX : va_X b L xs s s.heap) (hbl : b < s.heap.size) (hbA : b < base) (hi : i + 7 ≤ L) (hL : L ≤ 3584) (hl : lv_has ls 4 [(0, .ref b), (1, .ref (adC 0)), (2, .ref (adM 0)), (3, .int (nI i))]) (hcs : cells + 2 ≤ room_1.cells ∧ slots + 170 ≤ room_1.slots)
    (cont : ∀ (M' : Nat) (adC' : Nat → Nat) (σC' σM' : St) (H : Heap) (locs : List Loc) (ls : Array Slot), 53 ≤ M' → RR M' σC' σM' → WH (Gc D cs base K adM σM') YC M' adC' σC' s H locs → lv_has ls 4 [(0, .ref b), (1, .ref (adC' 0)), (2, .ref (adM 0)), (3, .int (nI i))] → W p l e room_1 s m args below meth c H locs (cells + 2) (slots + 170) Q (F0 m 1577 ls [])) :
    W p l e room_1 s m args below meth c H locs cells slots Q (F0 m 908 ls []) := by
  have hx := hc.1
  have hb := hc.2.1
  refine lv_aload_n hx hb dL_law_908 rfl (lv_at hl 1 rfl) ?_
  refine lv_aload_n hx hb dL_law_909 rfl (lv_at hl 0 rfl) ?_
  refine lv_iload_n hx hb dL_law_910 rfl (lv_at hl 3 rfl) ?_
  refine lv_iconst (v := 1) hx hb dL_law_911 (by decide) ?_
  refine lv_iadd hx hb dL_law_912 ?_
  refine g_scr (k := 1) (i := i) hc hw.2.2 hX hbl hbA (by omega) (by omega) (by rw [← nI_add]; rfl) dL_law_913 ?_
  refine lv_aload_n hx hb dL_law_914 rfl (lv_at hl 0 rfl) ?_
  refine lv_iload_n hx hb dL_law_915 rfl (lv_at hl 3 rfl) ?_
  refine lv_iconst (v := 2) hx hb dL_law_916 (by decide) ?_
  refine lv_iadd hx hb dL_law_917 ?_
  refine g_scr (k := 2) (i := i) hc hw.2.2 hX hbl hbA (by omega) (by omega) (by rw [← nI_add]; rfl) dL_law_918 ?_
  refine lv_aload_n hx hb dL_law_919 rfl (lv_at hl 0 rfl) ?_
  refine lv_iload_n hx hb dL_law_920 rfl (lv_at hl 3 rfl) ?_
  refine lv_iconst (v := 3) hx hb dL_law_921 (by decide) ?_
  refine lv_iadd hx hb dL_law_922 ?_
  refine g_scr (k := 3) (i := i) hc hw.2.2 hX hbl hbA (by omega) (by omega) (by rw [← nI_add]; rfl) dL_law_923 ?_
  refine g_Vi (Γ := Gc D cs base K adM σM) (Y := YC) (ci := 6) (n := 3) (k := 3) (As := [.int (xs (i + 1)), .int (xs (i + 2)), .int (xs (i + 3))]) (rest := []) rfl (by decide) vw_L_112 ⟨Nat.le_of_ble_eq_true rfl, Nat.le_of_ble_eq_true rfl, (Nat.le_trans (Nat.le_add_right cells 2) hcs.1), (Nat.le_trans (Nat.le_add_right slots 170) hcs.2)⟩ hc hw hl.1 (by omega) rfl (m_X6_mix l hM (xs (i + 1)) (xs (i + 2)) (xs (i + 3)) σC (hop M σC σM (xs (i + 1)) (xs (i + 2)) (xs (i + 3)) hM hR)) rfl rfl (Nat.le_of_ble_eq_true rfl) dL_law_924 (fun r1 u1 H locs h hw => ?_)
  replace hw := WH_swap hw
  have hc2 := CX_swap (M := M) (adC := adC) (σC := u1) hc
  refine lv_aload_n hx hb dL_law_927 rfl (lv_at hl 2 rfl) ?_
  refine lv_aload_n hx hb dL_law_928 rfl (lv_at hl 0 rfl) ?_
  refine lv_iload_n hx hb dL_law_929 rfl (lv_at hl 3 rfl) ?_
  refine lv_iconst (v := 1) hx hb dL_law_930 (by decide) ?_
  refine lv_iadd hx hb dL_law_931 ?_
  refine g_scr (k := 1) (i := i) hc2 hw.2.2 hX hbl hbA (by omega) (by omega) (by rw [← nI_add]; rfl) dL_law_932 ?_
  refine lv_aload_n hx hb dL_law_933 rfl (lv_at hl 0 rfl) ?_
  refine lv_iload_n hx hb dL_law_934 rfl (lv_at hl 3 rfl) ?_
  refine lv_iconst (v := 2) hx hb dL_law_935 (by decide) ?_
  refine lv_iadd hx hb dL_law_936 ?_
  refine g_scr (k := 2) (i := i) hc2 hw.2.2 hX hbl hbA (by omega) (by omega) (by rw [← nI_add]; rfl) dL_law_937 ?_
  refine lv_aload_n hx hb dL_law_938 rfl (lv_at hl 0 rfl) ?_
  refine lv_iload_n hx hb dL_law_939 rfl (lv_at hl 3 rfl) ?_
  refine lv_iconst (v := 3) hx hb dL_law_940 (by decide) ?_
  refine lv_iadd hx hb dL_law_941 ?_
  refine g_scr (k := 3) (i := i) hc2 hw.2.2 hX hbl hbA (by omega) (by omega) (by rw [← nI_add]; rfl) dL_law_942 ?_
  refine g_Vi (Γ := Gm2 D cs base K M adC u1) (Y := YM) (ci := 7) (n := 3) (k := 5) (As := [.int (xs (i + 1)), .int (xs (i + 2)), .int (xs (i + 3))]) (rest := [.int r1]) rfl (by decide) vw_L_115 ⟨Nat.le_of_ble_eq_true rfl, Nat.le_of_ble_eq_true rfl, (Nat.le_trans (Nat.le_add_right cells 2) hcs.1), (Nat.le_trans (Nat.le_add_right slots 170) hcs.2)⟩ hc2 hw hl.1 (by decide) rfl (m_X7_mix l (Nat.le_refl 20) (xs (i + 1)) (xs (i + 2)) (xs (i + 3)) σM h) rfl rfl (Nat.le_of_ble_eq_true rfl) dL_law_943 (fun r2 u2 H locs h hw => ?_)
  obtain ⟨hrr, hR2⟩ := h
  subst hrr
  replace hw := WH_swap2 hw
  refine lv_icmp_eq (tgt := 1577) hx hb dL_law_946 (by decide) (fun _ => ?_) (fun c => absurd rfl c)
  refine W.widen (k := cells + 2) (n := slots + 170) (by omega) (by omega) ?_
  exact cont M adC u1 u2 _ _ _ hM hR2 hw hl
theorem q_803 : Cond.methodLink RL 116 yX6_week ∈ TB := TB_at 803 (by decide +kernel) rfl
set_option maxRecDepth 100000 in
theorem q_806 : Cond.code yX6_week cX6_week 9 (Option.some Jvm.ClassFile.FieldType.int) ∈ TB := TB_at 806 rfl rfl
theorem q_804 : Cond.instanceMethod yX6_week ∈ TB := TB_at 804 (by decide +kernel) rfl
theorem q_805 : Cond.selects RX6 yX6_week yX6_week ∈ TB := TB_at 805 (by decide +kernel) rfl
theorem vw_L_116 : VW RL 116 RX6 yX6_week cX6_week 9 (Option.some Jvm.ClassFile.FieldType.int) 2 := ⟨q_803, q_804, q_805, q_75, q_806, by decide +kernel⟩
theorem q_1349 : Cond.methodLink RL 119 yX7_week ∈ TB := TB_at 1349 (by decide +kernel) rfl
set_option maxRecDepth 100000 in
theorem q_1352 : Cond.code yX7_week cX7_week 7 (Option.some Jvm.ClassFile.FieldType.int) ∈ TB := TB_at 1352 rfl rfl
theorem q_1350 : Cond.instanceMethod yX7_week ∈ TB := TB_at 1350 (by decide +kernel) rfl
theorem q_1351 : Cond.selects RX7 yX7_week yX7_week ∈ TB := TB_at 1351 (by decide +kernel) rfl
theorem vw_L_119 : VW RL 119 RX7 yX7_week cX7_week 7 (Option.some Jvm.ClassFile.FieldType.int) 2 := ⟨q_1349, q_1350, q_1351, q_89, q_1352, by decide +kernel⟩
set_option maxHeartbeats 4000000 in
set_option maxRecDepth 20000 in
theorem lc_24 {D : va_G} {cs : Nat → ClassId} {base : Nat} {K : (Nat → Nat) × (Nat → Nat) × Nat} {RR : Nat → St → St → Prop} {b L : Nat} {xs : Nat → Int32} {p : Program} {l : Launch} {e : Env} {s : State} {m : MethodId} {args : Array Value} {below : List Frame} {meth : Method} {c : Code} {Q : State → Prop} (hop : ∀ (M : Nat) (σC σM : St) (a1 a2 : Int32) , 53 ≤ M → RR M σC σM → w_X6_week M (fun r u => w_X7_week 20 (fun r2 u2 => r = r2 ∧ RR M u u2) a1 a2 σM) a1 a2 σC) (M : Nat) (adC adM : Nat → Nat) (σC σM : St) (H : Heap) (locs : List Loc) (ls : Array Slot) (cells slots i : Nat) (hM : 53 ≤ M) (hR : RR M σC σM) (hc : CX (Gc D cs base K adM σM) p s m args meth c cL_law RL 4) (hw : WH (Gc D cs base K adM σM) YC M adC σC s H locs) (hX : va_X b L xs s s.heap) (hbl : b < s.heap.size) (hbA : b < base) (hi : i + 7 ≤ L) (hL : L ≤ 3584) (hl : lv_has ls 4 [(0, .ref b), (1, .ref (adC 0)), (2, .ref (adM 0)), (3, .int (nI i))]) (hcs : cells + 2 ≤ room_1.cells ∧ slots + 170 ≤ room_1.slots)
    (cont : ∀ (M' : Nat) (adC' : Nat → Nat) (σC' σM' : St) (H : Heap) (locs : List Loc) (ls : Array Slot), 53 ≤ M' → RR M' σC' σM' → WH (Gc D cs base K adM σM') YC M' adC' σC' s H locs → lv_has ls 4 [(0, .ref b), (1, .ref (adC' 0)), (2, .ref (adM 0)), (3, .int (nI i))] → W p l e room_1 s m args below meth c H locs (cells + 2) (slots + 170) Q (F0 m 1577 ls [])) :
    W p l e room_1 s m args below meth c H locs cells slots Q (F0 m 951 ls []) := by
  have hx := hc.1
  have hb := hc.2.1
  refine lv_aload_n hx hb dL_law_951 rfl (lv_at hl 1 rfl) ?_
  refine lv_aload_n hx hb dL_law_952 rfl (lv_at hl 0 rfl) ?_
  refine lv_iload_n hx hb dL_law_953 rfl (lv_at hl 3 rfl) ?_
  refine lv_iconst (v := 1) hx hb dL_law_954 (by decide) ?_
  refine lv_iadd hx hb dL_law_955 ?_
  refine g_scr (k := 1) (i := i) hc hw.2.2 hX hbl hbA (by omega) (by omega) (by rw [← nI_add]; rfl) dL_law_956 ?_
  refine lv_aload_n hx hb dL_law_957 rfl (lv_at hl 0 rfl) ?_
  refine lv_iload_n hx hb dL_law_958 rfl (lv_at hl 3 rfl) ?_
  refine lv_iconst (v := 2) hx hb dL_law_959 (by decide) ?_
  refine lv_iadd hx hb dL_law_960 ?_
  refine g_scr (k := 2) (i := i) hc hw.2.2 hX hbl hbA (by omega) (by omega) (by rw [← nI_add]; rfl) dL_law_961 ?_
  refine g_Vi (Γ := Gc D cs base K adM σM) (Y := YC) (ci := 6) (n := 2) (k := 6) (As := [.int (xs (i + 1)), .int (xs (i + 2))]) (rest := []) rfl (by decide) vw_L_116 ⟨Nat.le_of_ble_eq_true rfl, Nat.le_of_ble_eq_true rfl, (Nat.le_trans (Nat.le_add_right cells 2) hcs.1), (Nat.le_trans (Nat.le_add_right slots 170) hcs.2)⟩ hc hw hl.1 (by omega) rfl (m_X6_week l hM (xs (i + 1)) (xs (i + 2)) σC (hop M σC σM (xs (i + 1)) (xs (i + 2)) hM hR)) rfl rfl (Nat.le_of_ble_eq_true rfl) dL_law_962 (fun r1 u1 H locs h hw => ?_)
  replace hw := WH_swap hw
  have hc2 := CX_swap (M := M) (adC := adC) (σC := u1) hc
  refine lv_aload_n hx hb dL_law_965 rfl (lv_at hl 2 rfl) ?_
  refine lv_aload_n hx hb dL_law_966 rfl (lv_at hl 0 rfl) ?_
  refine lv_iload_n hx hb dL_law_967 rfl (lv_at hl 3 rfl) ?_
  refine lv_iconst (v := 1) hx hb dL_law_968 (by decide) ?_
  refine lv_iadd hx hb dL_law_969 ?_
  refine g_scr (k := 1) (i := i) hc2 hw.2.2 hX hbl hbA (by omega) (by omega) (by rw [← nI_add]; rfl) dL_law_970 ?_
  refine lv_aload_n hx hb dL_law_971 rfl (lv_at hl 0 rfl) ?_
  refine lv_iload_n hx hb dL_law_972 rfl (lv_at hl 3 rfl) ?_
  refine lv_iconst (v := 2) hx hb dL_law_973 (by decide) ?_
  refine lv_iadd hx hb dL_law_974 ?_
  refine g_scr (k := 2) (i := i) hc2 hw.2.2 hX hbl hbA (by omega) (by omega) (by rw [← nI_add]; rfl) dL_law_975 ?_
  refine g_Vi (Γ := Gm2 D cs base K M adC u1) (Y := YM) (ci := 7) (n := 2) (k := 6) (As := [.int (xs (i + 1)), .int (xs (i + 2))]) (rest := [.int r1]) rfl (by decide) vw_L_119 ⟨Nat.le_of_ble_eq_true rfl, Nat.le_of_ble_eq_true rfl, (Nat.le_trans (Nat.le_add_right cells 2) hcs.1), (Nat.le_trans (Nat.le_add_right slots 170) hcs.2)⟩ hc2 hw hl.1 (by decide) rfl (m_X7_week l (Nat.le_refl 20) (xs (i + 1)) (xs (i + 2)) σM h) rfl rfl (Nat.le_of_ble_eq_true rfl) dL_law_976 (fun r2 u2 H locs h hw => ?_)
  obtain ⟨hrr, hR2⟩ := h
  subst hrr
  replace hw := WH_swap2 hw
  refine lv_icmp_eq (tgt := 1577) hx hb dL_law_979 (by decide) (fun _ => ?_) (fun c => absurd rfl c)
  refine W.widen (k := cells + 2) (n := slots + 170) (by omega) (by omega) ?_
  exact cont M adC u1 u2 _ _ _ hM hR2 hw hl
theorem q_808 : Cond.methodLink RL 120 yX6_pace ∈ TB := TB_at 808 (by decide +kernel) rfl
set_option maxRecDepth 100000 in
theorem q_811 : Cond.code yX6_pace cX6_pace 6 (Option.some Jvm.ClassFile.FieldType.int) ∈ TB := TB_at 811 rfl rfl
theorem q_809 : Cond.instanceMethod yX6_pace ∈ TB := TB_at 809 (by decide +kernel) rfl
theorem q_810 : Cond.selects RX6 yX6_pace yX6_pace ∈ TB := TB_at 810 (by decide +kernel) rfl
theorem vw_L_120 : VW RL 120 RX6 yX6_pace cX6_pace 6 (Option.some Jvm.ClassFile.FieldType.int) 2 := ⟨q_808, q_809, q_810, q_75, q_811, by decide +kernel⟩
theorem q_1353 : Cond.methodLink RL 123 yX7_pace ∈ TB := TB_at 1353 (by decide +kernel) rfl
set_option maxRecDepth 100000 in
theorem q_1356 : Cond.code yX7_pace cX7_pace 5 (Option.some Jvm.ClassFile.FieldType.int) ∈ TB := TB_at 1356 rfl rfl
theorem q_1354 : Cond.instanceMethod yX7_pace ∈ TB := TB_at 1354 (by decide +kernel) rfl
theorem q_1355 : Cond.selects RX7 yX7_pace yX7_pace ∈ TB := TB_at 1355 (by decide +kernel) rfl
theorem vw_L_123 : VW RL 123 RX7 yX7_pace cX7_pace 5 (Option.some Jvm.ClassFile.FieldType.int) 2 := ⟨q_1353, q_1354, q_1355, q_89, q_1356, by decide +kernel⟩
set_option maxHeartbeats 4000000 in
set_option maxRecDepth 20000 in
theorem lc_25 {D : va_G} {cs : Nat → ClassId} {base : Nat} {K : (Nat → Nat) × (Nat → Nat) × Nat} {RR : Nat → St → St → Prop} {b L : Nat} {xs : Nat → Int32} {p : Program} {l : Launch} {e : Env} {s : State} {m : MethodId} {args : Array Value} {below : List Frame} {meth : Method} {c : Code} {Q : State → Prop} (hop : ∀ (M : Nat) (σC σM : St) (a1 a2 : Int32) , 53 ≤ M → RR M σC σM → w_X6_pace M (fun r u => w_X7_pace 20 (fun r2 u2 => r = r2 ∧ RR M u u2) a1 a2 σM) a1 a2 σC) (M : Nat) (adC adM : Nat → Nat) (σC σM : St) (H : Heap) (locs : List Loc) (ls : Array Slot) (cells slots i : Nat) (hM : 53 ≤ M) (hR : RR M σC σM) (hc : CX (Gc D cs base K adM σM) p s m args meth c cL_law RL 4) (hw : WH (Gc D cs base K adM σM) YC M adC σC s H locs) (hX : va_X b L xs s s.heap) (hbl : b < s.heap.size) (hbA : b < base) (hi : i + 7 ≤ L) (hL : L ≤ 3584) (hl : lv_has ls 4 [(0, .ref b), (1, .ref (adC 0)), (2, .ref (adM 0)), (3, .int (nI i))]) (hcs : cells + 2 ≤ room_1.cells ∧ slots + 170 ≤ room_1.slots)
    (cont : ∀ (M' : Nat) (adC' : Nat → Nat) (σC' σM' : St) (H : Heap) (locs : List Loc) (ls : Array Slot), 53 ≤ M' → RR M' σC' σM' → WH (Gc D cs base K adM σM') YC M' adC' σC' s H locs → lv_has ls 4 [(0, .ref b), (1, .ref (adC' 0)), (2, .ref (adM 0)), (3, .int (nI i))] → W p l e room_1 s m args below meth c H locs (cells + 2) (slots + 170) Q (F0 m 1577 ls [])) :
    W p l e room_1 s m args below meth c H locs cells slots Q (F0 m 984 ls []) := by
  have hx := hc.1
  have hb := hc.2.1
  refine lv_aload_n hx hb dL_law_984 rfl (lv_at hl 1 rfl) ?_
  refine lv_aload_n hx hb dL_law_985 rfl (lv_at hl 0 rfl) ?_
  refine lv_iload_n hx hb dL_law_986 rfl (lv_at hl 3 rfl) ?_
  refine lv_iconst (v := 1) hx hb dL_law_987 (by decide) ?_
  refine lv_iadd hx hb dL_law_988 ?_
  refine g_scr (k := 1) (i := i) hc hw.2.2 hX hbl hbA (by omega) (by omega) (by rw [← nI_add]; rfl) dL_law_989 ?_
  refine lv_aload_n hx hb dL_law_990 rfl (lv_at hl 0 rfl) ?_
  refine lv_iload_n hx hb dL_law_991 rfl (lv_at hl 3 rfl) ?_
  refine lv_iconst (v := 2) hx hb dL_law_992 (by decide) ?_
  refine lv_iadd hx hb dL_law_993 ?_
  refine g_scr (k := 2) (i := i) hc hw.2.2 hX hbl hbA (by omega) (by omega) (by rw [← nI_add]; rfl) dL_law_994 ?_
  refine g_Vi (Γ := Gc D cs base K adM σM) (Y := YC) (ci := 6) (n := 2) (k := 3) (As := [.int (xs (i + 1)), .int (xs (i + 2))]) (rest := []) rfl (by decide) vw_L_120 ⟨Nat.le_of_ble_eq_true rfl, Nat.le_of_ble_eq_true rfl, (Nat.le_trans (Nat.le_add_right cells 2) hcs.1), (Nat.le_trans (Nat.le_add_right slots 170) hcs.2)⟩ hc hw hl.1 (by omega) rfl (m_X6_pace l hM (xs (i + 1)) (xs (i + 2)) σC (hop M σC σM (xs (i + 1)) (xs (i + 2)) hM hR)) rfl rfl (Nat.le_of_ble_eq_true rfl) dL_law_995 (fun r1 u1 H locs h hw => ?_)
  replace hw := WH_swap hw
  have hc2 := CX_swap (M := M) (adC := adC) (σC := u1) hc
  refine lv_aload_n hx hb dL_law_998 rfl (lv_at hl 2 rfl) ?_
  refine lv_aload_n hx hb dL_law_999 rfl (lv_at hl 0 rfl) ?_
  refine lv_iload_n hx hb dL_law_1000 rfl (lv_at hl 3 rfl) ?_
  refine lv_iconst (v := 1) hx hb dL_law_1001 (by decide) ?_
  refine lv_iadd hx hb dL_law_1002 ?_
  refine g_scr (k := 1) (i := i) hc2 hw.2.2 hX hbl hbA (by omega) (by omega) (by rw [← nI_add]; rfl) dL_law_1003 ?_
  refine lv_aload_n hx hb dL_law_1004 rfl (lv_at hl 0 rfl) ?_
  refine lv_iload_n hx hb dL_law_1005 rfl (lv_at hl 3 rfl) ?_
  refine lv_iconst (v := 2) hx hb dL_law_1006 (by decide) ?_
  refine lv_iadd hx hb dL_law_1007 ?_
  refine g_scr (k := 2) (i := i) hc2 hw.2.2 hX hbl hbA (by omega) (by omega) (by rw [← nI_add]; rfl) dL_law_1008 ?_
  refine g_Vi (Γ := Gm2 D cs base K M adC u1) (Y := YM) (ci := 7) (n := 2) (k := 5) (As := [.int (xs (i + 1)), .int (xs (i + 2))]) (rest := [.int r1]) rfl (by decide) vw_L_123 ⟨Nat.le_of_ble_eq_true rfl, Nat.le_of_ble_eq_true rfl, (Nat.le_trans (Nat.le_add_right cells 2) hcs.1), (Nat.le_trans (Nat.le_add_right slots 170) hcs.2)⟩ hc2 hw hl.1 (by decide) rfl (m_X7_pace l (Nat.le_refl 20) (xs (i + 1)) (xs (i + 2)) σM h) rfl rfl (Nat.le_of_ble_eq_true rfl) dL_law_1009 (fun r2 u2 H locs h hw => ?_)
  obtain ⟨hrr, hR2⟩ := h
  subst hrr
  replace hw := WH_swap2 hw
  refine lv_icmp_eq (tgt := 1577) hx hb dL_law_1012 (by decide) (fun _ => ?_) (fun c => absurd rfl c)
  refine W.widen (k := cells + 2) (n := slots + 170) (by omega) (by omega) ?_
  exact cont M adC u1 u2 _ _ _ hM hR2 hw hl
theorem q_812 : Cond.methodLink RL 124 yX6_table ∈ TB := TB_at 812 (by decide +kernel) rfl
set_option maxRecDepth 100000 in
theorem q_815 : Cond.code yX6_table cX6_table 5 (Option.some Jvm.ClassFile.FieldType.int) ∈ TB := TB_at 815 rfl rfl
theorem q_813 : Cond.instanceMethod yX6_table ∈ TB := TB_at 813 (by decide +kernel) rfl
theorem q_814 : Cond.selects RX6 yX6_table yX6_table ∈ TB := TB_at 814 (by decide +kernel) rfl
theorem vw_L_124 : VW RL 124 RX6 yX6_table cX6_table 5 (Option.some Jvm.ClassFile.FieldType.int) 3 := ⟨q_812, q_813, q_814, q_75, q_815, by decide +kernel⟩
theorem q_1358 : Cond.methodLink RL 127 yX7_table ∈ TB := TB_at 1358 (by decide +kernel) rfl
set_option maxRecDepth 100000 in
theorem q_1361 : Cond.code yX7_table cX7_table 4 (Option.some Jvm.ClassFile.FieldType.int) ∈ TB := TB_at 1361 rfl rfl
theorem q_1359 : Cond.instanceMethod yX7_table ∈ TB := TB_at 1359 (by decide +kernel) rfl
theorem q_1360 : Cond.selects RX7 yX7_table yX7_table ∈ TB := TB_at 1360 (by decide +kernel) rfl
theorem vw_L_127 : VW RL 127 RX7 yX7_table cX7_table 4 (Option.some Jvm.ClassFile.FieldType.int) 3 := ⟨q_1358, q_1359, q_1360, q_89, q_1361, by decide +kernel⟩
set_option maxHeartbeats 4000000 in
set_option maxRecDepth 20000 in
theorem lc_26 {D : va_G} {cs : Nat → ClassId} {base : Nat} {K : (Nat → Nat) × (Nat → Nat) × Nat} {RR : Nat → St → St → Prop} {b L : Nat} {xs : Nat → Int32} {p : Program} {l : Launch} {e : Env} {s : State} {m : MethodId} {args : Array Value} {below : List Frame} {meth : Method} {c : Code} {Q : State → Prop} (hop : ∀ (M : Nat) (σC σM : St) (a1 a2 a3 : Int32) , 53 ≤ M → RR M σC σM → w_X6_table M (fun r u => w_X7_table 20 (fun r2 u2 => r = r2 ∧ RR M u u2) a1 a2 a3 σM) a1 a2 a3 σC) (M : Nat) (adC adM : Nat → Nat) (σC σM : St) (H : Heap) (locs : List Loc) (ls : Array Slot) (cells slots i : Nat) (hM : 53 ≤ M) (hR : RR M σC σM) (hc : CX (Gc D cs base K adM σM) p s m args meth c cL_law RL 4) (hw : WH (Gc D cs base K adM σM) YC M adC σC s H locs) (hX : va_X b L xs s s.heap) (hbl : b < s.heap.size) (hbA : b < base) (hi : i + 7 ≤ L) (hL : L ≤ 3584) (hl : lv_has ls 4 [(0, .ref b), (1, .ref (adC 0)), (2, .ref (adM 0)), (3, .int (nI i))]) (hcs : cells + 2 ≤ room_1.cells ∧ slots + 170 ≤ room_1.slots)
    (cont : ∀ (M' : Nat) (adC' : Nat → Nat) (σC' σM' : St) (H : Heap) (locs : List Loc) (ls : Array Slot), 53 ≤ M' → RR M' σC' σM' → WH (Gc D cs base K adM σM') YC M' adC' σC' s H locs → lv_has ls 4 [(0, .ref b), (1, .ref (adC' 0)), (2, .ref (adM 0)), (3, .int (nI i))] → W p l e room_1 s m args below meth c H locs (cells + 2) (slots + 170) Q (F0 m 1577 ls [])) :
    W p l e room_1 s m args below meth c H locs cells slots Q (F0 m 1017 ls []) := by
  have hx := hc.1
  have hb := hc.2.1
  refine lv_aload_n hx hb dL_law_1017 rfl (lv_at hl 1 rfl) ?_
  refine lv_aload_n hx hb dL_law_1018 rfl (lv_at hl 0 rfl) ?_
  refine lv_iload_n hx hb dL_law_1019 rfl (lv_at hl 3 rfl) ?_
  refine lv_iconst (v := 1) hx hb dL_law_1020 (by decide) ?_
  refine lv_iadd hx hb dL_law_1021 ?_
  refine g_scr (k := 1) (i := i) hc hw.2.2 hX hbl hbA (by omega) (by omega) (by rw [← nI_add]; rfl) dL_law_1022 ?_
  refine lv_aload_n hx hb dL_law_1023 rfl (lv_at hl 0 rfl) ?_
  refine lv_iload_n hx hb dL_law_1024 rfl (lv_at hl 3 rfl) ?_
  refine lv_iconst (v := 2) hx hb dL_law_1025 (by decide) ?_
  refine lv_iadd hx hb dL_law_1026 ?_
  refine g_scr (k := 2) (i := i) hc hw.2.2 hX hbl hbA (by omega) (by omega) (by rw [← nI_add]; rfl) dL_law_1027 ?_
  refine lv_aload_n hx hb dL_law_1028 rfl (lv_at hl 0 rfl) ?_
  refine lv_iload_n hx hb dL_law_1029 rfl (lv_at hl 3 rfl) ?_
  refine lv_iconst (v := 3) hx hb dL_law_1030 (by decide) ?_
  refine lv_iadd hx hb dL_law_1031 ?_
  refine g_scr (k := 3) (i := i) hc hw.2.2 hX hbl hbA (by omega) (by omega) (by rw [← nI_add]; rfl) dL_law_1032 ?_
  refine g_Vi (Γ := Gc D cs base K adM σM) (Y := YC) (ci := 6) (n := 3) (k := 6) (As := [.int (xs (i + 1)), .int (xs (i + 2)), .int (xs (i + 3))]) (rest := []) rfl (by decide) vw_L_124 ⟨Nat.le_of_ble_eq_true rfl, Nat.le_of_ble_eq_true rfl, (Nat.le_trans (Nat.le_add_right cells 2) hcs.1), (Nat.le_trans (Nat.le_add_right slots 170) hcs.2)⟩ hc hw hl.1 (by omega) rfl (m_X6_table l hM (xs (i + 1)) (xs (i + 2)) (xs (i + 3)) σC (hop M σC σM (xs (i + 1)) (xs (i + 2)) (xs (i + 3)) hM hR)) rfl rfl (Nat.le_of_ble_eq_true rfl) dL_law_1033 (fun r1 u1 H locs h hw => ?_)
  replace hw := WH_swap hw
  have hc2 := CX_swap (M := M) (adC := adC) (σC := u1) hc
  refine lv_aload_n hx hb dL_law_1036 rfl (lv_at hl 2 rfl) ?_
  refine lv_aload_n hx hb dL_law_1037 rfl (lv_at hl 0 rfl) ?_
  refine lv_iload_n hx hb dL_law_1038 rfl (lv_at hl 3 rfl) ?_
  refine lv_iconst (v := 1) hx hb dL_law_1039 (by decide) ?_
  refine lv_iadd hx hb dL_law_1040 ?_
  refine g_scr (k := 1) (i := i) hc2 hw.2.2 hX hbl hbA (by omega) (by omega) (by rw [← nI_add]; rfl) dL_law_1041 ?_
  refine lv_aload_n hx hb dL_law_1042 rfl (lv_at hl 0 rfl) ?_
  refine lv_iload_n hx hb dL_law_1043 rfl (lv_at hl 3 rfl) ?_
  refine lv_iconst (v := 2) hx hb dL_law_1044 (by decide) ?_
  refine lv_iadd hx hb dL_law_1045 ?_
  refine g_scr (k := 2) (i := i) hc2 hw.2.2 hX hbl hbA (by omega) (by omega) (by rw [← nI_add]; rfl) dL_law_1046 ?_
  refine lv_aload_n hx hb dL_law_1047 rfl (lv_at hl 0 rfl) ?_
  refine lv_iload_n hx hb dL_law_1048 rfl (lv_at hl 3 rfl) ?_
  refine lv_iconst (v := 3) hx hb dL_law_1049 (by decide) ?_
  refine lv_iadd hx hb dL_law_1050 ?_
  refine g_scr (k := 3) (i := i) hc2 hw.2.2 hX hbl hbA (by omega) (by omega) (by rw [← nI_add]; rfl) dL_law_1051 ?_
  refine g_Vi (Γ := Gm2 D cs base K M adC u1) (Y := YM) (ci := 7) (n := 3) (k := 6) (As := [.int (xs (i + 1)), .int (xs (i + 2)), .int (xs (i + 3))]) (rest := [.int r1]) rfl (by decide) vw_L_127 ⟨Nat.le_of_ble_eq_true rfl, Nat.le_of_ble_eq_true rfl, (Nat.le_trans (Nat.le_add_right cells 2) hcs.1), (Nat.le_trans (Nat.le_add_right slots 170) hcs.2)⟩ hc2 hw hl.1 (by decide) rfl (m_X7_table l (Nat.le_refl 20) (xs (i + 1)) (xs (i + 2)) (xs (i + 3)) σM h) rfl rfl (Nat.le_of_ble_eq_true rfl) dL_law_1052 (fun r2 u2 H locs h hw => ?_)
  obtain ⟨hrr, hR2⟩ := h
  subst hrr
  replace hw := WH_swap2 hw
  refine lv_icmp_eq (tgt := 1577) hx hb dL_law_1055 (by decide) (fun _ => ?_) (fun c => absurd rfl c)
  refine W.widen (k := cells + 2) (n := slots + 170) (by omega) (by omega) ?_
  exact cont M adC u1 u2 _ _ _ hM hR2 hw hl
theorem q_823 : Cond.methodLink RL 128 yX6_dips ∈ TB := TB_at 823 (by decide +kernel) rfl
set_option maxRecDepth 100000 in
theorem q_826 : Cond.code yX6_dips cX6_dips 5 (Option.some Jvm.ClassFile.FieldType.int) ∈ TB := TB_at 826 rfl rfl
theorem q_824 : Cond.instanceMethod yX6_dips ∈ TB := TB_at 824 (by decide +kernel) rfl
theorem q_825 : Cond.selects RX6 yX6_dips yX6_dips ∈ TB := TB_at 825 (by decide +kernel) rfl
theorem vw_L_128 : VW RL 128 RX6 yX6_dips cX6_dips 5 (Option.some Jvm.ClassFile.FieldType.int) 2 := ⟨q_823, q_824, q_825, q_75, q_826, by decide +kernel⟩
theorem q_1368 : Cond.methodLink RL 131 yX7_dips ∈ TB := TB_at 1368 (by decide +kernel) rfl
set_option maxRecDepth 100000 in
theorem q_1371 : Cond.code yX7_dips cX7_dips 4 (Option.some Jvm.ClassFile.FieldType.int) ∈ TB := TB_at 1371 rfl rfl
theorem q_1369 : Cond.instanceMethod yX7_dips ∈ TB := TB_at 1369 (by decide +kernel) rfl
theorem q_1370 : Cond.selects RX7 yX7_dips yX7_dips ∈ TB := TB_at 1370 (by decide +kernel) rfl
theorem vw_L_131 : VW RL 131 RX7 yX7_dips cX7_dips 4 (Option.some Jvm.ClassFile.FieldType.int) 2 := ⟨q_1368, q_1369, q_1370, q_89, q_1371, by decide +kernel⟩
set_option maxHeartbeats 4000000 in
set_option maxRecDepth 20000 in
theorem lc_27 {D : va_G} {cs : Nat → ClassId} {base : Nat} {K : (Nat → Nat) × (Nat → Nat) × Nat} {RR : Nat → St → St → Prop} {b L : Nat} {xs : Nat → Int32} {p : Program} {l : Launch} {e : Env} {s : State} {m : MethodId} {args : Array Value} {below : List Frame} {meth : Method} {c : Code} {Q : State → Prop} (hop : ∀ (M : Nat) (σC σM : St) (a1 a2 : Int32) , 53 ≤ M → RR M σC σM → w_X6_dips M (fun r u => w_X7_dips 20 (fun r2 u2 => r = r2 ∧ RR M u u2) a1 a2 σM) a1 a2 σC) (M : Nat) (adC adM : Nat → Nat) (σC σM : St) (H : Heap) (locs : List Loc) (ls : Array Slot) (cells slots i : Nat) (hM : 53 ≤ M) (hR : RR M σC σM) (hc : CX (Gc D cs base K adM σM) p s m args meth c cL_law RL 4) (hw : WH (Gc D cs base K adM σM) YC M adC σC s H locs) (hX : va_X b L xs s s.heap) (hbl : b < s.heap.size) (hbA : b < base) (hi : i + 7 ≤ L) (hL : L ≤ 3584) (hl : lv_has ls 4 [(0, .ref b), (1, .ref (adC 0)), (2, .ref (adM 0)), (3, .int (nI i))]) (hcs : cells + 2 ≤ room_1.cells ∧ slots + 170 ≤ room_1.slots)
    (cont : ∀ (M' : Nat) (adC' : Nat → Nat) (σC' σM' : St) (H : Heap) (locs : List Loc) (ls : Array Slot), 53 ≤ M' → RR M' σC' σM' → WH (Gc D cs base K adM σM') YC M' adC' σC' s H locs → lv_has ls 4 [(0, .ref b), (1, .ref (adC' 0)), (2, .ref (adM 0)), (3, .int (nI i))] → W p l e room_1 s m args below meth c H locs (cells + 2) (slots + 170) Q (F0 m 1577 ls [])) :
    W p l e room_1 s m args below meth c H locs cells slots Q (F0 m 1060 ls []) := by
  have hx := hc.1
  have hb := hc.2.1
  refine lv_aload_n hx hb dL_law_1060 rfl (lv_at hl 1 rfl) ?_
  refine lv_aload_n hx hb dL_law_1061 rfl (lv_at hl 0 rfl) ?_
  refine lv_iload_n hx hb dL_law_1062 rfl (lv_at hl 3 rfl) ?_
  refine lv_iconst (v := 1) hx hb dL_law_1063 (by decide) ?_
  refine lv_iadd hx hb dL_law_1064 ?_
  refine g_scr (k := 1) (i := i) hc hw.2.2 hX hbl hbA (by omega) (by omega) (by rw [← nI_add]; rfl) dL_law_1065 ?_
  refine lv_aload_n hx hb dL_law_1066 rfl (lv_at hl 0 rfl) ?_
  refine lv_iload_n hx hb dL_law_1067 rfl (lv_at hl 3 rfl) ?_
  refine lv_iconst (v := 2) hx hb dL_law_1068 (by decide) ?_
  refine lv_iadd hx hb dL_law_1069 ?_
  refine g_scr (k := 2) (i := i) hc hw.2.2 hX hbl hbA (by omega) (by omega) (by rw [← nI_add]; rfl) dL_law_1070 ?_
  refine g_Vi (Γ := Gc D cs base K adM σM) (Y := YC) (ci := 6) (n := 2) (k := 6) (As := [.int (xs (i + 1)), .int (xs (i + 2))]) (rest := []) rfl (by decide) vw_L_128 ⟨Nat.le_of_ble_eq_true rfl, Nat.le_of_ble_eq_true rfl, (Nat.le_trans (Nat.le_add_right cells 2) hcs.1), (Nat.le_trans (Nat.le_add_right slots 170) hcs.2)⟩ hc hw hl.1 (by omega) rfl (m_X6_dips l hM (xs (i + 1)) (xs (i + 2)) σC (hop M σC σM (xs (i + 1)) (xs (i + 2)) hM hR)) rfl rfl (Nat.le_of_ble_eq_true rfl) dL_law_1071 (fun r1 u1 H locs h hw => ?_)
  replace hw := WH_swap hw
  have hc2 := CX_swap (M := M) (adC := adC) (σC := u1) hc
  refine lv_aload_n hx hb dL_law_1074 rfl (lv_at hl 2 rfl) ?_
  refine lv_aload_n hx hb dL_law_1075 rfl (lv_at hl 0 rfl) ?_
  refine lv_iload_n hx hb dL_law_1076 rfl (lv_at hl 3 rfl) ?_
  refine lv_iconst (v := 1) hx hb dL_law_1077 (by decide) ?_
  refine lv_iadd hx hb dL_law_1078 ?_
  refine g_scr (k := 1) (i := i) hc2 hw.2.2 hX hbl hbA (by omega) (by omega) (by rw [← nI_add]; rfl) dL_law_1079 ?_
  refine lv_aload_n hx hb dL_law_1080 rfl (lv_at hl 0 rfl) ?_
  refine lv_iload_n hx hb dL_law_1081 rfl (lv_at hl 3 rfl) ?_
  refine lv_iconst (v := 2) hx hb dL_law_1082 (by decide) ?_
  refine lv_iadd hx hb dL_law_1083 ?_
  refine g_scr (k := 2) (i := i) hc2 hw.2.2 hX hbl hbA (by omega) (by omega) (by rw [← nI_add]; rfl) dL_law_1084 ?_
  refine g_Vi (Γ := Gm2 D cs base K M adC u1) (Y := YM) (ci := 7) (n := 2) (k := 6) (As := [.int (xs (i + 1)), .int (xs (i + 2))]) (rest := [.int r1]) rfl (by decide) vw_L_131 ⟨Nat.le_of_ble_eq_true rfl, Nat.le_of_ble_eq_true rfl, (Nat.le_trans (Nat.le_add_right cells 2) hcs.1), (Nat.le_trans (Nat.le_add_right slots 170) hcs.2)⟩ hc2 hw hl.1 (by decide) rfl (m_X7_dips l (Nat.le_refl 20) (xs (i + 1)) (xs (i + 2)) σM h) rfl rfl (Nat.le_of_ble_eq_true rfl) dL_law_1085 (fun r2 u2 H locs h hw => ?_)
  obtain ⟨hrr, hR2⟩ := h
  subst hrr
  replace hw := WH_swap2 hw
  refine lv_icmp_eq (tgt := 1577) hx hb dL_law_1088 (by decide) (fun _ => ?_) (fun c => absurd rfl c)
  refine W.widen (k := cells + 2) (n := slots + 170) (by omega) (by omega) ?_
  exact cont M adC u1 u2 _ _ _ hM hR2 hw hl
theorem q_827 : Cond.methodLink RL 132 yX6_wick ∈ TB := TB_at 827 (by decide +kernel) rfl
set_option maxRecDepth 100000 in
theorem q_830 : Cond.code yX6_wick cX6_wick 7 (Option.some Jvm.ClassFile.FieldType.int) ∈ TB := TB_at 830 rfl rfl
theorem q_828 : Cond.instanceMethod yX6_wick ∈ TB := TB_at 828 (by decide +kernel) rfl
theorem q_829 : Cond.selects RX6 yX6_wick yX6_wick ∈ TB := TB_at 829 (by decide +kernel) rfl
theorem vw_L_132 : VW RL 132 RX6 yX6_wick cX6_wick 7 (Option.some Jvm.ClassFile.FieldType.int) 2 := ⟨q_827, q_828, q_829, q_75, q_830, by decide +kernel⟩
theorem q_1373 : Cond.methodLink RL 135 yX7_wick ∈ TB := TB_at 1373 (by decide +kernel) rfl
set_option maxRecDepth 100000 in
theorem q_1376 : Cond.code yX7_wick cX7_wick 6 (Option.some Jvm.ClassFile.FieldType.int) ∈ TB := TB_at 1376 rfl rfl
theorem q_1374 : Cond.instanceMethod yX7_wick ∈ TB := TB_at 1374 (by decide +kernel) rfl
theorem q_1375 : Cond.selects RX7 yX7_wick yX7_wick ∈ TB := TB_at 1375 (by decide +kernel) rfl
theorem vw_L_135 : VW RL 135 RX7 yX7_wick cX7_wick 6 (Option.some Jvm.ClassFile.FieldType.int) 2 := ⟨q_1373, q_1374, q_1375, q_89, q_1376, by decide +kernel⟩
set_option maxHeartbeats 4000000 in
set_option maxRecDepth 20000 in
theorem lc_28 {D : va_G} {cs : Nat → ClassId} {base : Nat} {K : (Nat → Nat) × (Nat → Nat) × Nat} {RR : Nat → St → St → Prop} {b L : Nat} {xs : Nat → Int32} {p : Program} {l : Launch} {e : Env} {s : State} {m : MethodId} {args : Array Value} {below : List Frame} {meth : Method} {c : Code} {Q : State → Prop} (hop : ∀ (M : Nat) (σC σM : St) (a1 a2 : Int32) , 53 ≤ M → RR M σC σM → w_X6_wick M (fun r u => w_X7_wick 20 (fun r2 u2 => r = r2 ∧ RR M u u2) a1 a2 σM) a1 a2 σC) (M : Nat) (adC adM : Nat → Nat) (σC σM : St) (H : Heap) (locs : List Loc) (ls : Array Slot) (cells slots i : Nat) (hM : 53 ≤ M) (hR : RR M σC σM) (hc : CX (Gc D cs base K adM σM) p s m args meth c cL_law RL 4) (hw : WH (Gc D cs base K adM σM) YC M adC σC s H locs) (hX : va_X b L xs s s.heap) (hbl : b < s.heap.size) (hbA : b < base) (hi : i + 7 ≤ L) (hL : L ≤ 3584) (hl : lv_has ls 4 [(0, .ref b), (1, .ref (adC 0)), (2, .ref (adM 0)), (3, .int (nI i))]) (hcs : cells + 2 ≤ room_1.cells ∧ slots + 170 ≤ room_1.slots)
    (cont : ∀ (M' : Nat) (adC' : Nat → Nat) (σC' σM' : St) (H : Heap) (locs : List Loc) (ls : Array Slot), 53 ≤ M' → RR M' σC' σM' → WH (Gc D cs base K adM σM') YC M' adC' σC' s H locs → lv_has ls 4 [(0, .ref b), (1, .ref (adC' 0)), (2, .ref (adM 0)), (3, .int (nI i))] → W p l e room_1 s m args below meth c H locs (cells + 2) (slots + 170) Q (F0 m 1577 ls [])) :
    W p l e room_1 s m args below meth c H locs cells slots Q (F0 m 1093 ls []) := by
  have hx := hc.1
  have hb := hc.2.1
  refine lv_aload_n hx hb dL_law_1093 rfl (lv_at hl 1 rfl) ?_
  refine lv_aload_n hx hb dL_law_1094 rfl (lv_at hl 0 rfl) ?_
  refine lv_iload_n hx hb dL_law_1095 rfl (lv_at hl 3 rfl) ?_
  refine lv_iconst (v := 1) hx hb dL_law_1096 (by decide) ?_
  refine lv_iadd hx hb dL_law_1097 ?_
  refine g_scr (k := 1) (i := i) hc hw.2.2 hX hbl hbA (by omega) (by omega) (by rw [← nI_add]; rfl) dL_law_1098 ?_
  refine lv_aload_n hx hb dL_law_1099 rfl (lv_at hl 0 rfl) ?_
  refine lv_iload_n hx hb dL_law_1100 rfl (lv_at hl 3 rfl) ?_
  refine lv_iconst (v := 2) hx hb dL_law_1101 (by decide) ?_
  refine lv_iadd hx hb dL_law_1102 ?_
  refine g_scr (k := 2) (i := i) hc hw.2.2 hX hbl hbA (by omega) (by omega) (by rw [← nI_add]; rfl) dL_law_1103 ?_
  refine g_Vi (Γ := Gc D cs base K adM σM) (Y := YC) (ci := 6) (n := 2) (k := 6) (As := [.int (xs (i + 1)), .int (xs (i + 2))]) (rest := []) rfl (by decide) vw_L_132 ⟨Nat.le_of_ble_eq_true rfl, Nat.le_of_ble_eq_true rfl, (Nat.le_trans (Nat.le_add_right cells 2) hcs.1), (Nat.le_trans (Nat.le_add_right slots 170) hcs.2)⟩ hc hw hl.1 (by omega) rfl (m_X6_wick l hM (xs (i + 1)) (xs (i + 2)) σC (hop M σC σM (xs (i + 1)) (xs (i + 2)) hM hR)) rfl rfl (Nat.le_of_ble_eq_true rfl) dL_law_1104 (fun r1 u1 H locs h hw => ?_)
  replace hw := WH_swap hw
  have hc2 := CX_swap (M := M) (adC := adC) (σC := u1) hc
  refine lv_aload_n hx hb dL_law_1107 rfl (lv_at hl 2 rfl) ?_
  refine lv_aload_n hx hb dL_law_1108 rfl (lv_at hl 0 rfl) ?_
  refine lv_iload_n hx hb dL_law_1109 rfl (lv_at hl 3 rfl) ?_
  refine lv_iconst (v := 1) hx hb dL_law_1110 (by decide) ?_
  refine lv_iadd hx hb dL_law_1111 ?_
  refine g_scr (k := 1) (i := i) hc2 hw.2.2 hX hbl hbA (by omega) (by omega) (by rw [← nI_add]; rfl) dL_law_1112 ?_
  refine lv_aload_n hx hb dL_law_1113 rfl (lv_at hl 0 rfl) ?_
  refine lv_iload_n hx hb dL_law_1114 rfl (lv_at hl 3 rfl) ?_
  refine lv_iconst (v := 2) hx hb dL_law_1115 (by decide) ?_
  refine lv_iadd hx hb dL_law_1116 ?_
  refine g_scr (k := 2) (i := i) hc2 hw.2.2 hX hbl hbA (by omega) (by omega) (by rw [← nI_add]; rfl) dL_law_1117 ?_
  refine g_Vi (Γ := Gm2 D cs base K M adC u1) (Y := YM) (ci := 7) (n := 2) (k := 6) (As := [.int (xs (i + 1)), .int (xs (i + 2))]) (rest := [.int r1]) rfl (by decide) vw_L_135 ⟨Nat.le_of_ble_eq_true rfl, Nat.le_of_ble_eq_true rfl, (Nat.le_trans (Nat.le_add_right cells 2) hcs.1), (Nat.le_trans (Nat.le_add_right slots 170) hcs.2)⟩ hc2 hw hl.1 (by decide) rfl (m_X7_wick l (Nat.le_refl 20) (xs (i + 1)) (xs (i + 2)) σM h) rfl rfl (Nat.le_of_ble_eq_true rfl) dL_law_1118 (fun r2 u2 H locs h hw => ?_)
  obtain ⟨hrr, hR2⟩ := h
  subst hrr
  replace hw := WH_swap2 hw
  refine lv_icmp_eq (tgt := 1577) hx hb dL_law_1121 (by decide) (fun _ => ?_) (fun c => absurd rfl c)
  refine W.widen (k := cells + 2) (n := slots + 170) (by omega) (by omega) ?_
  exact cont M adC u1 u2 _ _ _ hM hR2 hw hl
theorem q_831 : Cond.methodLink RL 136 yX6_judge ∈ TB := TB_at 831 (by decide +kernel) rfl
set_option maxRecDepth 100000 in
theorem q_834 : Cond.code yX6_judge cX6_judge 5 (Option.some Jvm.ClassFile.FieldType.int) ∈ TB := TB_at 834 rfl rfl
theorem q_832 : Cond.instanceMethod yX6_judge ∈ TB := TB_at 832 (by decide +kernel) rfl
theorem q_833 : Cond.selects RX6 yX6_judge yX6_judge ∈ TB := TB_at 833 (by decide +kernel) rfl
theorem vw_L_136 : VW RL 136 RX6 yX6_judge cX6_judge 5 (Option.some Jvm.ClassFile.FieldType.int) 1 := ⟨q_831, q_832, q_833, q_75, q_834, by decide +kernel⟩
theorem q_1377 : Cond.methodLink RL 139 yX7_judge ∈ TB := TB_at 1377 (by decide +kernel) rfl
set_option maxRecDepth 100000 in
theorem q_1380 : Cond.code yX7_judge cX7_judge 3 (Option.some Jvm.ClassFile.FieldType.int) ∈ TB := TB_at 1380 rfl rfl
theorem q_1378 : Cond.instanceMethod yX7_judge ∈ TB := TB_at 1378 (by decide +kernel) rfl
theorem q_1379 : Cond.selects RX7 yX7_judge yX7_judge ∈ TB := TB_at 1379 (by decide +kernel) rfl
theorem vw_L_139 : VW RL 139 RX7 yX7_judge cX7_judge 3 (Option.some Jvm.ClassFile.FieldType.int) 1 := ⟨q_1377, q_1378, q_1379, q_89, q_1380, by decide +kernel⟩
set_option maxHeartbeats 4000000 in
set_option maxRecDepth 20000 in
theorem lc_29 {D : va_G} {cs : Nat → ClassId} {base : Nat} {K : (Nat → Nat) × (Nat → Nat) × Nat} {RR : Nat → St → St → Prop} {b L : Nat} {xs : Nat → Int32} {p : Program} {l : Launch} {e : Env} {s : State} {m : MethodId} {args : Array Value} {below : List Frame} {meth : Method} {c : Code} {Q : State → Prop} (hop : ∀ (M : Nat) (σC σM : St) (a1 : Int32) , 53 ≤ M → RR M σC σM → w_X6_judge M (fun r u => w_X7_judge 20 (fun r2 u2 => r = r2 ∧ RR M u u2) a1 σM) a1 σC) (M : Nat) (adC adM : Nat → Nat) (σC σM : St) (H : Heap) (locs : List Loc) (ls : Array Slot) (cells slots i : Nat) (hM : 53 ≤ M) (hR : RR M σC σM) (hc : CX (Gc D cs base K adM σM) p s m args meth c cL_law RL 4) (hw : WH (Gc D cs base K adM σM) YC M adC σC s H locs) (hX : va_X b L xs s s.heap) (hbl : b < s.heap.size) (hbA : b < base) (hi : i + 7 ≤ L) (hL : L ≤ 3584) (hl : lv_has ls 4 [(0, .ref b), (1, .ref (adC 0)), (2, .ref (adM 0)), (3, .int (nI i))]) (hcs : cells + 2 ≤ room_1.cells ∧ slots + 170 ≤ room_1.slots)
    (cont : ∀ (M' : Nat) (adC' : Nat → Nat) (σC' σM' : St) (H : Heap) (locs : List Loc) (ls : Array Slot), 53 ≤ M' → RR M' σC' σM' → WH (Gc D cs base K adM σM') YC M' adC' σC' s H locs → lv_has ls 4 [(0, .ref b), (1, .ref (adC' 0)), (2, .ref (adM 0)), (3, .int (nI i))] → W p l e room_1 s m args below meth c H locs (cells + 2) (slots + 170) Q (F0 m 1577 ls [])) :
    W p l e room_1 s m args below meth c H locs cells slots Q (F0 m 1126 ls []) := by
  have hx := hc.1
  have hb := hc.2.1
  refine lv_aload_n hx hb dL_law_1126 rfl (lv_at hl 1 rfl) ?_
  refine lv_aload_n hx hb dL_law_1127 rfl (lv_at hl 0 rfl) ?_
  refine lv_iload_n hx hb dL_law_1128 rfl (lv_at hl 3 rfl) ?_
  refine lv_iconst (v := 1) hx hb dL_law_1129 (by decide) ?_
  refine lv_iadd hx hb dL_law_1130 ?_
  refine g_scr (k := 1) (i := i) hc hw.2.2 hX hbl hbA (by omega) (by omega) (by rw [← nI_add]; rfl) dL_law_1131 ?_
  refine g_Vi (Γ := Gc D cs base K adM σM) (Y := YC) (ci := 6) (n := 1) (k := 5) (As := [.int (xs (i + 1))]) (rest := []) rfl (by decide) vw_L_136 ⟨Nat.le_of_ble_eq_true rfl, Nat.le_of_ble_eq_true rfl, (Nat.le_trans (Nat.le_add_right cells 2) hcs.1), (Nat.le_trans (Nat.le_add_right slots 170) hcs.2)⟩ hc hw hl.1 (by omega) rfl (m_X6_judge l hM (xs (i + 1)) σC (hop M σC σM (xs (i + 1)) hM hR)) rfl rfl (Nat.le_of_ble_eq_true rfl) dL_law_1132 (fun r1 u1 H locs h hw => ?_)
  replace hw := WH_swap hw
  have hc2 := CX_swap (M := M) (adC := adC) (σC := u1) hc
  refine lv_aload_n hx hb dL_law_1135 rfl (lv_at hl 2 rfl) ?_
  refine lv_aload_n hx hb dL_law_1136 rfl (lv_at hl 0 rfl) ?_
  refine lv_iload_n hx hb dL_law_1137 rfl (lv_at hl 3 rfl) ?_
  refine lv_iconst (v := 1) hx hb dL_law_1138 (by decide) ?_
  refine lv_iadd hx hb dL_law_1139 ?_
  refine g_scr (k := 1) (i := i) hc2 hw.2.2 hX hbl hbA (by omega) (by omega) (by rw [← nI_add]; rfl) dL_law_1140 ?_
  refine g_Vi (Γ := Gm2 D cs base K M adC u1) (Y := YM) (ci := 7) (n := 1) (k := 5) (As := [.int (xs (i + 1))]) (rest := [.int r1]) rfl (by decide) vw_L_139 ⟨Nat.le_of_ble_eq_true rfl, Nat.le_of_ble_eq_true rfl, (Nat.le_trans (Nat.le_add_right cells 2) hcs.1), (Nat.le_trans (Nat.le_add_right slots 170) hcs.2)⟩ hc2 hw hl.1 (by decide) rfl (m_X7_judge l (Nat.le_refl 20) (xs (i + 1)) σM h) rfl rfl (Nat.le_of_ble_eq_true rfl) dL_law_1141 (fun r2 u2 H locs h hw => ?_)
  obtain ⟨hrr, hR2⟩ := h
  subst hrr
  replace hw := WH_swap2 hw
  refine lv_icmp_eq (tgt := 1577) hx hb dL_law_1144 (by decide) (fun _ => ?_) (fun c => absurd rfl c)
  refine W.widen (k := cells + 2) (n := slots + 170) (by omega) (by omega) ?_
  exact cont M adC u1 u2 _ _ _ hM hR2 hw hl
theorem q_856 : Cond.methodLink RL 140 yX6_film ∈ TB := TB_at 856 (by decide +kernel) rfl
set_option maxRecDepth 100000 in
theorem q_859 : Cond.code yX6_film cX6_film 4 (Option.some Jvm.ClassFile.FieldType.int) ∈ TB := TB_at 859 rfl rfl
theorem q_857 : Cond.instanceMethod yX6_film ∈ TB := TB_at 857 (by decide +kernel) rfl
theorem q_858 : Cond.selects RX6 yX6_film yX6_film ∈ TB := TB_at 858 (by decide +kernel) rfl
theorem vw_L_140 : VW RL 140 RX6 yX6_film cX6_film 4 (Option.some Jvm.ClassFile.FieldType.int) 1 := ⟨q_856, q_857, q_858, q_75, q_859, by decide +kernel⟩
theorem q_1388 : Cond.methodLink RL 143 yX7_film ∈ TB := TB_at 1388 (by decide +kernel) rfl
set_option maxRecDepth 100000 in
theorem q_1391 : Cond.code yX7_film cX7_film 4 (Option.some Jvm.ClassFile.FieldType.int) ∈ TB := TB_at 1391 rfl rfl
theorem q_1389 : Cond.instanceMethod yX7_film ∈ TB := TB_at 1389 (by decide +kernel) rfl
theorem q_1390 : Cond.selects RX7 yX7_film yX7_film ∈ TB := TB_at 1390 (by decide +kernel) rfl
theorem vw_L_143 : VW RL 143 RX7 yX7_film cX7_film 4 (Option.some Jvm.ClassFile.FieldType.int) 1 := ⟨q_1388, q_1389, q_1390, q_89, q_1391, by decide +kernel⟩
set_option maxHeartbeats 4000000 in
set_option maxRecDepth 20000 in
theorem lc_30 {D : va_G} {cs : Nat → ClassId} {base : Nat} {K : (Nat → Nat) × (Nat → Nat) × Nat} {RR : Nat → St → St → Prop} {b L : Nat} {xs : Nat → Int32} {p : Program} {l : Launch} {e : Env} {s : State} {m : MethodId} {args : Array Value} {below : List Frame} {meth : Method} {c : Code} {Q : State → Prop} (hop : ∀ (M : Nat) (σC σM : St) (a1 : Int32) , 53 ≤ M → RR M σC σM → w_X6_film M (fun r u => w_X7_film 20 (fun r2 u2 => r = r2 ∧ RR M u u2) a1 σM) a1 σC) (M : Nat) (adC adM : Nat → Nat) (σC σM : St) (H : Heap) (locs : List Loc) (ls : Array Slot) (cells slots i : Nat) (hM : 53 ≤ M) (hR : RR M σC σM) (hc : CX (Gc D cs base K adM σM) p s m args meth c cL_law RL 4) (hw : WH (Gc D cs base K adM σM) YC M adC σC s H locs) (hX : va_X b L xs s s.heap) (hbl : b < s.heap.size) (hbA : b < base) (hi : i + 7 ≤ L) (hL : L ≤ 3584) (hl : lv_has ls 4 [(0, .ref b), (1, .ref (adC 0)), (2, .ref (adM 0)), (3, .int (nI i))]) (hcs : cells + 2 ≤ room_1.cells ∧ slots + 170 ≤ room_1.slots)
    (cont : ∀ (M' : Nat) (adC' : Nat → Nat) (σC' σM' : St) (H : Heap) (locs : List Loc) (ls : Array Slot), 53 ≤ M' → RR M' σC' σM' → WH (Gc D cs base K adM σM') YC M' adC' σC' s H locs → lv_has ls 4 [(0, .ref b), (1, .ref (adC' 0)), (2, .ref (adM 0)), (3, .int (nI i))] → W p l e room_1 s m args below meth c H locs (cells + 2) (slots + 170) Q (F0 m 1577 ls [])) :
    W p l e room_1 s m args below meth c H locs cells slots Q (F0 m 1149 ls []) := by
  have hx := hc.1
  have hb := hc.2.1
  refine lv_aload_n hx hb dL_law_1149 rfl (lv_at hl 1 rfl) ?_
  refine lv_aload_n hx hb dL_law_1150 rfl (lv_at hl 0 rfl) ?_
  refine lv_iload_n hx hb dL_law_1151 rfl (lv_at hl 3 rfl) ?_
  refine lv_iconst (v := 1) hx hb dL_law_1152 (by decide) ?_
  refine lv_iadd hx hb dL_law_1153 ?_
  refine g_scr (k := 1) (i := i) hc hw.2.2 hX hbl hbA (by omega) (by omega) (by rw [← nI_add]; rfl) dL_law_1154 ?_
  refine g_Vi (Γ := Gc D cs base K adM σM) (Y := YC) (ci := 6) (n := 1) (k := 5) (As := [.int (xs (i + 1))]) (rest := []) rfl (by decide) vw_L_140 ⟨Nat.le_of_ble_eq_true rfl, Nat.le_of_ble_eq_true rfl, (Nat.le_trans (Nat.le_add_right cells 2) hcs.1), (Nat.le_trans (Nat.le_add_right slots 170) hcs.2)⟩ hc hw hl.1 (by omega) rfl (m_X6_film l hM (xs (i + 1)) σC (hop M σC σM (xs (i + 1)) hM hR)) rfl rfl (Nat.le_of_ble_eq_true rfl) dL_law_1155 (fun r1 u1 H locs h hw => ?_)
  replace hw := WH_swap hw
  have hc2 := CX_swap (M := M) (adC := adC) (σC := u1) hc
  refine lv_aload_n hx hb dL_law_1158 rfl (lv_at hl 2 rfl) ?_
  refine lv_aload_n hx hb dL_law_1159 rfl (lv_at hl 0 rfl) ?_
  refine lv_iload_n hx hb dL_law_1160 rfl (lv_at hl 3 rfl) ?_
  refine lv_iconst (v := 1) hx hb dL_law_1161 (by decide) ?_
  refine lv_iadd hx hb dL_law_1162 ?_
  refine g_scr (k := 1) (i := i) hc2 hw.2.2 hX hbl hbA (by omega) (by omega) (by rw [← nI_add]; rfl) dL_law_1163 ?_
  refine g_Vi (Γ := Gm2 D cs base K M adC u1) (Y := YM) (ci := 7) (n := 1) (k := 5) (As := [.int (xs (i + 1))]) (rest := [.int r1]) rfl (by decide) vw_L_143 ⟨Nat.le_of_ble_eq_true rfl, Nat.le_of_ble_eq_true rfl, (Nat.le_trans (Nat.le_add_right cells 2) hcs.1), (Nat.le_trans (Nat.le_add_right slots 170) hcs.2)⟩ hc2 hw hl.1 (by decide) rfl (m_X7_film l (Nat.le_refl 20) (xs (i + 1)) σM h) rfl rfl (Nat.le_of_ble_eq_true rfl) dL_law_1164 (fun r2 u2 H locs h hw => ?_)
  obtain ⟨hrr, hR2⟩ := h
  subst hrr
  replace hw := WH_swap2 hw
  refine lv_icmp_eq (tgt := 1577) hx hb dL_law_1167 (by decide) (fun _ => ?_) (fun c => absurd rfl c)
  refine W.widen (k := cells + 2) (n := slots + 170) (by omega) (by omega) ?_
  exact cont M adC u1 u2 _ _ _ hM hR2 hw hl
theorem q_870 : Cond.methodLink RL 144 yX6_ages ∈ TB := TB_at 870 (by decide +kernel) rfl
set_option maxRecDepth 100000 in
theorem q_873 : Cond.code yX6_ages cX6_ages 9 (Option.some Jvm.ClassFile.FieldType.long) ∈ TB := TB_at 873 rfl rfl
theorem q_871 : Cond.instanceMethod yX6_ages ∈ TB := TB_at 871 (by decide +kernel) rfl
theorem q_872 : Cond.selects RX6 yX6_ages yX6_ages ∈ TB := TB_at 872 (by decide +kernel) rfl
theorem vw_L_144 : VW RL 144 RX6 yX6_ages cX6_ages 9 (Option.some Jvm.ClassFile.FieldType.long) 2 := ⟨q_870, q_871, q_872, q_75, q_873, by decide +kernel⟩
theorem q_1397 : Cond.methodLink RL 147 yX7_ages ∈ TB := TB_at 1397 (by decide +kernel) rfl
set_option maxRecDepth 100000 in
theorem q_1400 : Cond.code yX7_ages cX7_ages 7 (Option.some Jvm.ClassFile.FieldType.long) ∈ TB := TB_at 1400 rfl rfl
theorem q_1398 : Cond.instanceMethod yX7_ages ∈ TB := TB_at 1398 (by decide +kernel) rfl
theorem q_1399 : Cond.selects RX7 yX7_ages yX7_ages ∈ TB := TB_at 1399 (by decide +kernel) rfl
theorem vw_L_147 : VW RL 147 RX7 yX7_ages cX7_ages 7 (Option.some Jvm.ClassFile.FieldType.long) 2 := ⟨q_1397, q_1398, q_1399, q_89, q_1400, by decide +kernel⟩
set_option maxHeartbeats 4000000 in
set_option maxRecDepth 20000 in
theorem lc_31 {D : va_G} {cs : Nat → ClassId} {base : Nat} {K : (Nat → Nat) × (Nat → Nat) × Nat} {RR : Nat → St → St → Prop} {b L : Nat} {xs : Nat → Int32} {p : Program} {l : Launch} {e : Env} {s : State} {m : MethodId} {args : Array Value} {below : List Frame} {meth : Method} {c : Code} {Q : State → Prop} (hop : ∀ (M : Nat) (σC σM : St) (a1 a2 : Int32) , 53 ≤ M → RR M σC σM → w_X6_ages M (fun r u => w_X7_ages 20 (fun r2 u2 => r = r2 ∧ RR M u u2) a1 a2 σM) a1 a2 σC) (M : Nat) (adC adM : Nat → Nat) (σC σM : St) (H : Heap) (locs : List Loc) (ls : Array Slot) (cells slots i : Nat) (hM : 53 ≤ M) (hR : RR M σC σM) (hc : CX (Gc D cs base K adM σM) p s m args meth c cL_law RL 4) (hw : WH (Gc D cs base K adM σM) YC M adC σC s H locs) (hX : va_X b L xs s s.heap) (hbl : b < s.heap.size) (hbA : b < base) (hi : i + 7 ≤ L) (hL : L ≤ 3584) (hl : lv_has ls 4 [(0, .ref b), (1, .ref (adC 0)), (2, .ref (adM 0)), (3, .int (nI i))]) (hcs : cells + 2 ≤ room_1.cells ∧ slots + 170 ≤ room_1.slots)
    (cont : ∀ (M' : Nat) (adC' : Nat → Nat) (σC' σM' : St) (H : Heap) (locs : List Loc) (ls : Array Slot), 53 ≤ M' → RR M' σC' σM' → WH (Gc D cs base K adM σM') YC M' adC' σC' s H locs → lv_has ls 4 [(0, .ref b), (1, .ref (adC' 0)), (2, .ref (adM 0)), (3, .int (nI i))] → W p l e room_1 s m args below meth c H locs (cells + 2) (slots + 170) Q (F0 m 1577 ls [])) :
    W p l e room_1 s m args below meth c H locs cells slots Q (F0 m 1172 ls []) := by
  have hx := hc.1
  have hb := hc.2.1
  refine lv_aload_n hx hb dL_law_1172 rfl (lv_at hl 1 rfl) ?_
  refine lv_aload_n hx hb dL_law_1173 rfl (lv_at hl 0 rfl) ?_
  refine lv_iload_n hx hb dL_law_1174 rfl (lv_at hl 3 rfl) ?_
  refine lv_iconst (v := 1) hx hb dL_law_1175 (by decide) ?_
  refine lv_iadd hx hb dL_law_1176 ?_
  refine g_scr (k := 1) (i := i) hc hw.2.2 hX hbl hbA (by omega) (by omega) (by rw [← nI_add]; rfl) dL_law_1177 ?_
  refine lv_aload_n hx hb dL_law_1178 rfl (lv_at hl 0 rfl) ?_
  refine lv_iload_n hx hb dL_law_1179 rfl (lv_at hl 3 rfl) ?_
  refine lv_iconst (v := 2) hx hb dL_law_1180 (by decide) ?_
  refine lv_iadd hx hb dL_law_1181 ?_
  refine g_scr (k := 2) (i := i) hc hw.2.2 hX hbl hbA (by omega) (by omega) (by rw [← nI_add]; rfl) dL_law_1182 ?_
  refine g_Vl (Γ := Gc D cs base K adM σM) (Y := YC) (ci := 6) (n := 2) (k := 6) (As := [.int (xs (i + 1)), .int (xs (i + 2))]) (rest := []) rfl (by decide) vw_L_144 ⟨Nat.le_of_ble_eq_true rfl, Nat.le_of_ble_eq_true rfl, (Nat.le_trans (Nat.le_add_right cells 2) hcs.1), (Nat.le_trans (Nat.le_add_right slots 170) hcs.2)⟩ hc hw hl.1 (by omega) rfl (m_X6_ages l hM (xs (i + 1)) (xs (i + 2)) σC (hop M σC σM (xs (i + 1)) (xs (i + 2)) hM hR)) rfl rfl (Nat.le_of_ble_eq_true rfl) dL_law_1183 (fun r1 u1 H locs h hw => ?_)
  replace hw := WH_swap hw
  have hc2 := CX_swap (M := M) (adC := adC) (σC := u1) hc
  refine lv_aload_n hx hb dL_law_1186 rfl (lv_at hl 2 rfl) ?_
  refine lv_aload_n hx hb dL_law_1187 rfl (lv_at hl 0 rfl) ?_
  refine lv_iload_n hx hb dL_law_1188 rfl (lv_at hl 3 rfl) ?_
  refine lv_iconst (v := 1) hx hb dL_law_1189 (by decide) ?_
  refine lv_iadd hx hb dL_law_1190 ?_
  refine g_scr (k := 1) (i := i) hc2 hw.2.2 hX hbl hbA (by omega) (by omega) (by rw [← nI_add]; rfl) dL_law_1191 ?_
  refine lv_aload_n hx hb dL_law_1192 rfl (lv_at hl 0 rfl) ?_
  refine lv_iload_n hx hb dL_law_1193 rfl (lv_at hl 3 rfl) ?_
  refine lv_iconst (v := 2) hx hb dL_law_1194 (by decide) ?_
  refine lv_iadd hx hb dL_law_1195 ?_
  refine g_scr (k := 2) (i := i) hc2 hw.2.2 hX hbl hbA (by omega) (by omega) (by rw [← nI_add]; rfl) dL_law_1196 ?_
  refine g_Vl (Γ := Gm2 D cs base K M adC u1) (Y := YM) (ci := 7) (n := 2) (k := 6) (As := [.int (xs (i + 1)), .int (xs (i + 2))]) (rest := [.long r1]) rfl (by decide) vw_L_147 ⟨Nat.le_of_ble_eq_true rfl, Nat.le_of_ble_eq_true rfl, (Nat.le_trans (Nat.le_add_right cells 2) hcs.1), (Nat.le_trans (Nat.le_add_right slots 170) hcs.2)⟩ hc2 hw hl.1 (by decide) rfl (m_X7_ages l (Nat.le_refl 20) (xs (i + 1)) (xs (i + 2)) σM h) rfl rfl (Nat.le_of_ble_eq_true rfl) dL_law_1197 (fun r2 u2 H locs h hw => ?_)
  obtain ⟨hrr, hR2⟩ := h
  subst hrr
  replace hw := WH_swap2 hw
  refine W.lcmp hx hb dL_law_1200 ?_
  rw [lg_same]
  refine lv_if_eq (tgt := 1577) hx hb dL_law_1201 (by decide) (fun _ => ?_) (fun c => absurd rfl c)
  refine W.widen (k := cells + 2) (n := slots + 170) (by omega) (by omega) ?_
  exact cont M adC u1 u2 _ _ _ hM hR2 hw hl
theorem q_878 : Cond.methodLink RL 148 yX6_which ∈ TB := TB_at 878 (by decide +kernel) rfl
set_option maxRecDepth 100000 in
theorem q_881 : Cond.code yX6_which cX6_which 6 (Option.some Jvm.ClassFile.FieldType.int) ∈ TB := TB_at 881 rfl rfl
theorem q_879 : Cond.instanceMethod yX6_which ∈ TB := TB_at 879 (by decide +kernel) rfl
theorem q_880 : Cond.selects RX6 yX6_which yX6_which ∈ TB := TB_at 880 (by decide +kernel) rfl
theorem vw_L_148 : VW RL 148 RX6 yX6_which cX6_which 6 (Option.some Jvm.ClassFile.FieldType.int) 1 := ⟨q_878, q_879, q_880, q_75, q_881, by decide +kernel⟩
theorem q_1405 : Cond.methodLink RL 151 yX7_which ∈ TB := TB_at 1405 (by decide +kernel) rfl
set_option maxRecDepth 100000 in
theorem q_1408 : Cond.code yX7_which cX7_which 5 (Option.some Jvm.ClassFile.FieldType.int) ∈ TB := TB_at 1408 rfl rfl
theorem q_1406 : Cond.instanceMethod yX7_which ∈ TB := TB_at 1406 (by decide +kernel) rfl
theorem q_1407 : Cond.selects RX7 yX7_which yX7_which ∈ TB := TB_at 1407 (by decide +kernel) rfl
theorem vw_L_151 : VW RL 151 RX7 yX7_which cX7_which 5 (Option.some Jvm.ClassFile.FieldType.int) 1 := ⟨q_1405, q_1406, q_1407, q_89, q_1408, by decide +kernel⟩
set_option maxHeartbeats 4000000 in
set_option maxRecDepth 20000 in
theorem lc_32 {D : va_G} {cs : Nat → ClassId} {base : Nat} {K : (Nat → Nat) × (Nat → Nat) × Nat} {RR : Nat → St → St → Prop} {b L : Nat} {xs : Nat → Int32} {p : Program} {l : Launch} {e : Env} {s : State} {m : MethodId} {args : Array Value} {below : List Frame} {meth : Method} {c : Code} {Q : State → Prop} (hop : ∀ (M : Nat) (σC σM : St) (a1 : Int32) , 53 ≤ M → RR M σC σM → w_X6_which M (fun r u => w_X7_which 20 (fun r2 u2 => r = r2 ∧ RR M u u2) a1 σM) a1 σC) (M : Nat) (adC adM : Nat → Nat) (σC σM : St) (H : Heap) (locs : List Loc) (ls : Array Slot) (cells slots i : Nat) (hM : 53 ≤ M) (hR : RR M σC σM) (hc : CX (Gc D cs base K adM σM) p s m args meth c cL_law RL 4) (hw : WH (Gc D cs base K adM σM) YC M adC σC s H locs) (hX : va_X b L xs s s.heap) (hbl : b < s.heap.size) (hbA : b < base) (hi : i + 7 ≤ L) (hL : L ≤ 3584) (hl : lv_has ls 4 [(0, .ref b), (1, .ref (adC 0)), (2, .ref (adM 0)), (3, .int (nI i))]) (hcs : cells + 2 ≤ room_1.cells ∧ slots + 170 ≤ room_1.slots)
    (cont : ∀ (M' : Nat) (adC' : Nat → Nat) (σC' σM' : St) (H : Heap) (locs : List Loc) (ls : Array Slot), 53 ≤ M' → RR M' σC' σM' → WH (Gc D cs base K adM σM') YC M' adC' σC' s H locs → lv_has ls 4 [(0, .ref b), (1, .ref (adC' 0)), (2, .ref (adM 0)), (3, .int (nI i))] → W p l e room_1 s m args below meth c H locs (cells + 2) (slots + 170) Q (F0 m 1577 ls [])) :
    W p l e room_1 s m args below meth c H locs cells slots Q (F0 m 1206 ls []) := by
  have hx := hc.1
  have hb := hc.2.1
  refine lv_aload_n hx hb dL_law_1206 rfl (lv_at hl 1 rfl) ?_
  refine lv_aload_n hx hb dL_law_1207 rfl (lv_at hl 0 rfl) ?_
  refine lv_iload_n hx hb dL_law_1208 rfl (lv_at hl 3 rfl) ?_
  refine lv_iconst (v := 1) hx hb dL_law_1209 (by decide) ?_
  refine lv_iadd hx hb dL_law_1210 ?_
  refine g_scr (k := 1) (i := i) hc hw.2.2 hX hbl hbA (by omega) (by omega) (by rw [← nI_add]; rfl) dL_law_1211 ?_
  refine g_Vi (Γ := Gc D cs base K adM σM) (Y := YC) (ci := 6) (n := 1) (k := 6) (As := [.int (xs (i + 1))]) (rest := []) rfl (by decide) vw_L_148 ⟨Nat.le_of_ble_eq_true rfl, Nat.le_of_ble_eq_true rfl, (Nat.le_trans (Nat.le_add_right cells 2) hcs.1), (Nat.le_trans (Nat.le_add_right slots 170) hcs.2)⟩ hc hw hl.1 (by omega) rfl (m_X6_which l hM (xs (i + 1)) σC (hop M σC σM (xs (i + 1)) hM hR)) rfl rfl (Nat.le_of_ble_eq_true rfl) dL_law_1212 (fun r1 u1 H locs h hw => ?_)
  replace hw := WH_swap hw
  have hc2 := CX_swap (M := M) (adC := adC) (σC := u1) hc
  refine lv_aload_n hx hb dL_law_1215 rfl (lv_at hl 2 rfl) ?_
  refine lv_aload_n hx hb dL_law_1216 rfl (lv_at hl 0 rfl) ?_
  refine lv_iload_n hx hb dL_law_1217 rfl (lv_at hl 3 rfl) ?_
  refine lv_iconst (v := 1) hx hb dL_law_1218 (by decide) ?_
  refine lv_iadd hx hb dL_law_1219 ?_
  refine g_scr (k := 1) (i := i) hc2 hw.2.2 hX hbl hbA (by omega) (by omega) (by rw [← nI_add]; rfl) dL_law_1220 ?_
  refine g_Vi (Γ := Gm2 D cs base K M adC u1) (Y := YM) (ci := 7) (n := 1) (k := 6) (As := [.int (xs (i + 1))]) (rest := [.int r1]) rfl (by decide) vw_L_151 ⟨Nat.le_of_ble_eq_true rfl, Nat.le_of_ble_eq_true rfl, (Nat.le_trans (Nat.le_add_right cells 2) hcs.1), (Nat.le_trans (Nat.le_add_right slots 170) hcs.2)⟩ hc2 hw hl.1 (by decide) rfl (m_X7_which l (Nat.le_refl 20) (xs (i + 1)) σM h) rfl rfl (Nat.le_of_ble_eq_true rfl) dL_law_1221 (fun r2 u2 H locs h hw => ?_)
  obtain ⟨hrr, hR2⟩ := h
  subst hrr
  replace hw := WH_swap2 hw
  refine lv_icmp_eq (tgt := 1577) hx hb dL_law_1224 (by decide) (fun _ => ?_) (fun c => absurd rfl c)
  refine W.widen (k := cells + 2) (n := slots + 170) (by omega) (by omega) ?_
  exact cont M adC u1 u2 _ _ _ hM hR2 hw hl
theorem q_882 : Cond.methodLink RL 152 yX6_drawn ∈ TB := TB_at 882 (by decide +kernel) rfl
set_option maxRecDepth 100000 in
theorem q_885 : Cond.code yX6_drawn cX6_drawn 4 (Option.some Jvm.ClassFile.FieldType.int) ∈ TB := TB_at 885 rfl rfl
theorem q_883 : Cond.instanceMethod yX6_drawn ∈ TB := TB_at 883 (by decide +kernel) rfl
theorem q_884 : Cond.selects RX6 yX6_drawn yX6_drawn ∈ TB := TB_at 884 (by decide +kernel) rfl
theorem vw_L_152 : VW RL 152 RX6 yX6_drawn cX6_drawn 4 (Option.some Jvm.ClassFile.FieldType.int) 3 := ⟨q_882, q_883, q_884, q_75, q_885, by decide +kernel⟩
theorem q_1409 : Cond.methodLink RL 155 yX7_drawn ∈ TB := TB_at 1409 (by decide +kernel) rfl
set_option maxRecDepth 100000 in
theorem q_1412 : Cond.code yX7_drawn cX7_drawn 4 (Option.some Jvm.ClassFile.FieldType.int) ∈ TB := TB_at 1412 rfl rfl
theorem q_1410 : Cond.instanceMethod yX7_drawn ∈ TB := TB_at 1410 (by decide +kernel) rfl
theorem q_1411 : Cond.selects RX7 yX7_drawn yX7_drawn ∈ TB := TB_at 1411 (by decide +kernel) rfl
theorem vw_L_155 : VW RL 155 RX7 yX7_drawn cX7_drawn 4 (Option.some Jvm.ClassFile.FieldType.int) 3 := ⟨q_1409, q_1410, q_1411, q_89, q_1412, by decide +kernel⟩
set_option maxHeartbeats 4000000 in
set_option maxRecDepth 20000 in
theorem lc_33 {D : va_G} {cs : Nat → ClassId} {base : Nat} {K : (Nat → Nat) × (Nat → Nat) × Nat} {RR : Nat → St → St → Prop} {b L : Nat} {xs : Nat → Int32} {p : Program} {l : Launch} {e : Env} {s : State} {m : MethodId} {args : Array Value} {below : List Frame} {meth : Method} {c : Code} {Q : State → Prop} (hop : ∀ (M : Nat) (σC σM : St) (a1 a2 a3 : Int32) , 53 ≤ M → RR M σC σM → w_X6_drawn M (fun r u => w_X7_drawn 20 (fun r2 u2 => r = r2 ∧ RR M u u2) a1 a2 a3 σM) a1 a2 a3 σC) (M : Nat) (adC adM : Nat → Nat) (σC σM : St) (H : Heap) (locs : List Loc) (ls : Array Slot) (cells slots i : Nat) (hM : 53 ≤ M) (hR : RR M σC σM) (hc : CX (Gc D cs base K adM σM) p s m args meth c cL_law RL 4) (hw : WH (Gc D cs base K adM σM) YC M adC σC s H locs) (hX : va_X b L xs s s.heap) (hbl : b < s.heap.size) (hbA : b < base) (hi : i + 7 ≤ L) (hL : L ≤ 3584) (hl : lv_has ls 4 [(0, .ref b), (1, .ref (adC 0)), (2, .ref (adM 0)), (3, .int (nI i))]) (hcs : cells + 2 ≤ room_1.cells ∧ slots + 170 ≤ room_1.slots)
    (cont : ∀ (M' : Nat) (adC' : Nat → Nat) (σC' σM' : St) (H : Heap) (locs : List Loc) (ls : Array Slot), 53 ≤ M' → RR M' σC' σM' → WH (Gc D cs base K adM σM') YC M' adC' σC' s H locs → lv_has ls 4 [(0, .ref b), (1, .ref (adC' 0)), (2, .ref (adM 0)), (3, .int (nI i))] → W p l e room_1 s m args below meth c H locs (cells + 2) (slots + 170) Q (F0 m 1577 ls [])) :
    W p l e room_1 s m args below meth c H locs cells slots Q (F0 m 1229 ls []) := by
  have hx := hc.1
  have hb := hc.2.1
  refine lv_aload_n hx hb dL_law_1229 rfl (lv_at hl 1 rfl) ?_
  refine lv_aload_n hx hb dL_law_1230 rfl (lv_at hl 0 rfl) ?_
  refine lv_iload_n hx hb dL_law_1231 rfl (lv_at hl 3 rfl) ?_
  refine lv_iconst (v := 1) hx hb dL_law_1232 (by decide) ?_
  refine lv_iadd hx hb dL_law_1233 ?_
  refine g_scr (k := 1) (i := i) hc hw.2.2 hX hbl hbA (by omega) (by omega) (by rw [← nI_add]; rfl) dL_law_1234 ?_
  refine lv_aload_n hx hb dL_law_1235 rfl (lv_at hl 0 rfl) ?_
  refine lv_iload_n hx hb dL_law_1236 rfl (lv_at hl 3 rfl) ?_
  refine lv_iconst (v := 2) hx hb dL_law_1237 (by decide) ?_
  refine lv_iadd hx hb dL_law_1238 ?_
  refine g_scr (k := 2) (i := i) hc hw.2.2 hX hbl hbA (by omega) (by omega) (by rw [← nI_add]; rfl) dL_law_1239 ?_
  refine lv_aload_n hx hb dL_law_1240 rfl (lv_at hl 0 rfl) ?_
  refine lv_iload_n hx hb dL_law_1241 rfl (lv_at hl 3 rfl) ?_
  refine lv_iconst (v := 3) hx hb dL_law_1242 (by decide) ?_
  refine lv_iadd hx hb dL_law_1243 ?_
  refine g_scr (k := 3) (i := i) hc hw.2.2 hX hbl hbA (by omega) (by omega) (by rw [← nI_add]; rfl) dL_law_1244 ?_
  refine g_Vi (Γ := Gc D cs base K adM σM) (Y := YC) (ci := 6) (n := 3) (k := 6) (As := [.int (xs (i + 1)), .int (xs (i + 2)), .int (xs (i + 3))]) (rest := []) rfl (by decide) vw_L_152 ⟨Nat.le_of_ble_eq_true rfl, Nat.le_of_ble_eq_true rfl, (Nat.le_trans (Nat.le_add_right cells 2) hcs.1), (Nat.le_trans (Nat.le_add_right slots 170) hcs.2)⟩ hc hw hl.1 (by omega) rfl (m_X6_drawn l hM (xs (i + 1)) (xs (i + 2)) (xs (i + 3)) σC (hop M σC σM (xs (i + 1)) (xs (i + 2)) (xs (i + 3)) hM hR)) rfl rfl (Nat.le_of_ble_eq_true rfl) dL_law_1245 (fun r1 u1 H locs h hw => ?_)
  replace hw := WH_swap hw
  have hc2 := CX_swap (M := M) (adC := adC) (σC := u1) hc
  refine lv_aload_n hx hb dL_law_1248 rfl (lv_at hl 2 rfl) ?_
  refine lv_aload_n hx hb dL_law_1249 rfl (lv_at hl 0 rfl) ?_
  refine lv_iload_n hx hb dL_law_1250 rfl (lv_at hl 3 rfl) ?_
  refine lv_iconst (v := 1) hx hb dL_law_1251 (by decide) ?_
  refine lv_iadd hx hb dL_law_1252 ?_
  refine g_scr (k := 1) (i := i) hc2 hw.2.2 hX hbl hbA (by omega) (by omega) (by rw [← nI_add]; rfl) dL_law_1253 ?_
  refine lv_aload_n hx hb dL_law_1254 rfl (lv_at hl 0 rfl) ?_
  refine lv_iload_n hx hb dL_law_1255 rfl (lv_at hl 3 rfl) ?_
  refine lv_iconst (v := 2) hx hb dL_law_1256 (by decide) ?_
  refine lv_iadd hx hb dL_law_1257 ?_
  refine g_scr (k := 2) (i := i) hc2 hw.2.2 hX hbl hbA (by omega) (by omega) (by rw [← nI_add]; rfl) dL_law_1258 ?_
  refine lv_aload_n hx hb dL_law_1259 rfl (lv_at hl 0 rfl) ?_
  refine lv_iload_n hx hb dL_law_1260 rfl (lv_at hl 3 rfl) ?_
  refine lv_iconst (v := 3) hx hb dL_law_1261 (by decide) ?_
  refine lv_iadd hx hb dL_law_1262 ?_
  refine g_scr (k := 3) (i := i) hc2 hw.2.2 hX hbl hbA (by omega) (by omega) (by rw [← nI_add]; rfl) dL_law_1263 ?_
  refine g_Vi (Γ := Gm2 D cs base K M adC u1) (Y := YM) (ci := 7) (n := 3) (k := 6) (As := [.int (xs (i + 1)), .int (xs (i + 2)), .int (xs (i + 3))]) (rest := [.int r1]) rfl (by decide) vw_L_155 ⟨Nat.le_of_ble_eq_true rfl, Nat.le_of_ble_eq_true rfl, (Nat.le_trans (Nat.le_add_right cells 2) hcs.1), (Nat.le_trans (Nat.le_add_right slots 170) hcs.2)⟩ hc2 hw hl.1 (by decide) rfl (m_X7_drawn l (Nat.le_refl 20) (xs (i + 1)) (xs (i + 2)) (xs (i + 3)) σM h) rfl rfl (Nat.le_of_ble_eq_true rfl) dL_law_1264 (fun r2 u2 H locs h hw => ?_)
  obtain ⟨hrr, hR2⟩ := h
  subst hrr
  replace hw := WH_swap2 hw
  refine lv_icmp_eq (tgt := 1577) hx hb dL_law_1267 (by decide) (fun _ => ?_) (fun c => absurd rfl c)
  refine W.widen (k := cells + 2) (n := slots + 170) (by omega) (by omega) ?_
  exact cont M adC u1 u2 _ _ _ hM hR2 hw hl
theorem q_898 : Cond.methodLink RL 156 yX6_chance ∈ TB := TB_at 898 (by decide +kernel) rfl
set_option maxRecDepth 100000 in
theorem q_901 : Cond.code yX6_chance cX6_chance 6 (Option.some Jvm.ClassFile.FieldType.long) ∈ TB := TB_at 901 rfl rfl
theorem q_899 : Cond.instanceMethod yX6_chance ∈ TB := TB_at 899 (by decide +kernel) rfl
theorem q_900 : Cond.selects RX6 yX6_chance yX6_chance ∈ TB := TB_at 900 (by decide +kernel) rfl
theorem vw_L_156 : VW RL 156 RX6 yX6_chance cX6_chance 6 (Option.some Jvm.ClassFile.FieldType.long) 3 := ⟨q_898, q_899, q_900, q_75, q_901, by decide +kernel⟩
theorem q_1418 : Cond.methodLink RL 160 yX7_chance ∈ TB := TB_at 1418 (by decide +kernel) rfl
set_option maxRecDepth 100000 in
theorem q_1421 : Cond.code yX7_chance cX7_chance 6 (Option.some Jvm.ClassFile.FieldType.long) ∈ TB := TB_at 1421 rfl rfl
theorem q_1419 : Cond.instanceMethod yX7_chance ∈ TB := TB_at 1419 (by decide +kernel) rfl
theorem q_1420 : Cond.selects RX7 yX7_chance yX7_chance ∈ TB := TB_at 1420 (by decide +kernel) rfl
theorem vw_L_160 : VW RL 160 RX7 yX7_chance cX7_chance 6 (Option.some Jvm.ClassFile.FieldType.long) 3 := ⟨q_1418, q_1419, q_1420, q_89, q_1421, by decide +kernel⟩
set_option maxHeartbeats 4000000 in
set_option maxRecDepth 20000 in
theorem lc_34 {D : va_G} {cs : Nat → ClassId} {base : Nat} {K : (Nat → Nat) × (Nat → Nat) × Nat} {RR : Nat → St → St → Prop} {b L : Nat} {xs : Nat → Int32} {p : Program} {l : Launch} {e : Env} {s : State} {m : MethodId} {args : Array Value} {below : List Frame} {meth : Method} {c : Code} {Q : State → Prop} (hop : ∀ (M : Nat) (σC σM : St) (a1 a2 a3 : Int32) , 53 ≤ M → RR M σC σM → w_X6_chance M (fun r u => w_X7_chance 20 (fun r2 u2 => r = r2 ∧ RR M u u2) a1 a2 a3 σM) a1 a2 a3 σC) (M : Nat) (adC adM : Nat → Nat) (σC σM : St) (H : Heap) (locs : List Loc) (ls : Array Slot) (cells slots i : Nat) (hM : 53 ≤ M) (hR : RR M σC σM) (hc : CX (Gc D cs base K adM σM) p s m args meth c cL_law RL 4) (hw : WH (Gc D cs base K adM σM) YC M adC σC s H locs) (hX : va_X b L xs s s.heap) (hbl : b < s.heap.size) (hbA : b < base) (hi : i + 7 ≤ L) (hL : L ≤ 3584) (hl : lv_has ls 4 [(0, .ref b), (1, .ref (adC 0)), (2, .ref (adM 0)), (3, .int (nI i))]) (hcs : cells + 2 ≤ room_1.cells ∧ slots + 170 ≤ room_1.slots)
    (cont : ∀ (M' : Nat) (adC' : Nat → Nat) (σC' σM' : St) (H : Heap) (locs : List Loc) (ls : Array Slot), 53 ≤ M' → RR M' σC' σM' → WH (Gc D cs base K adM σM') YC M' adC' σC' s H locs → lv_has ls 4 [(0, .ref b), (1, .ref (adC' 0)), (2, .ref (adM 0)), (3, .int (nI i))] → W p l e room_1 s m args below meth c H locs (cells + 2) (slots + 170) Q (F0 m 1577 ls [])) :
    W p l e room_1 s m args below meth c H locs cells slots Q (F0 m 1272 ls []) := by
  have hx := hc.1
  have hb := hc.2.1
  refine lv_aload_n hx hb dL_law_1272 rfl (lv_at hl 1 rfl) ?_
  refine lv_aload_n hx hb dL_law_1273 rfl (lv_at hl 0 rfl) ?_
  refine lv_iload_n hx hb dL_law_1274 rfl (lv_at hl 3 rfl) ?_
  refine lv_iconst (v := 1) hx hb dL_law_1275 (by decide) ?_
  refine lv_iadd hx hb dL_law_1276 ?_
  refine g_scr (k := 1) (i := i) hc hw.2.2 hX hbl hbA (by omega) (by omega) (by rw [← nI_add]; rfl) dL_law_1277 ?_
  refine lv_aload_n hx hb dL_law_1278 rfl (lv_at hl 0 rfl) ?_
  refine lv_iload_n hx hb dL_law_1279 rfl (lv_at hl 3 rfl) ?_
  refine lv_iconst (v := 2) hx hb dL_law_1280 (by decide) ?_
  refine lv_iadd hx hb dL_law_1281 ?_
  refine g_scr (k := 2) (i := i) hc hw.2.2 hX hbl hbA (by omega) (by omega) (by rw [← nI_add]; rfl) dL_law_1282 ?_
  refine lv_aload_n hx hb dL_law_1283 rfl (lv_at hl 0 rfl) ?_
  refine lv_iload_n hx hb dL_law_1284 rfl (lv_at hl 3 rfl) ?_
  refine lv_iconst (v := 3) hx hb dL_law_1285 (by decide) ?_
  refine lv_iadd hx hb dL_law_1286 ?_
  refine g_scr (k := 3) (i := i) hc hw.2.2 hX hbl hbA (by omega) (by omega) (by rw [← nI_add]; rfl) dL_law_1287 ?_
  refine g_Vl (Γ := Gc D cs base K adM σM) (Y := YC) (ci := 6) (n := 3) (k := 6) (As := [.int (xs (i + 1)), .int (xs (i + 2)), .int (xs (i + 3))]) (rest := []) rfl (by decide) vw_L_156 ⟨Nat.le_of_ble_eq_true rfl, Nat.le_of_ble_eq_true rfl, (Nat.le_trans (Nat.le_add_right cells 2) hcs.1), (Nat.le_trans (Nat.le_add_right slots 170) hcs.2)⟩ hc hw hl.1 (by omega) rfl (m_X6_chance l hM (xs (i + 1)) (xs (i + 2)) (xs (i + 3)) σC (hop M σC σM (xs (i + 1)) (xs (i + 2)) (xs (i + 3)) hM hR)) rfl rfl (Nat.le_of_ble_eq_true rfl) dL_law_1288 (fun r1 u1 H locs h hw => ?_)
  replace hw := WH_swap hw
  have hc2 := CX_swap (M := M) (adC := adC) (σC := u1) hc
  refine lv_aload_n hx hb dL_law_1291 rfl (lv_at hl 2 rfl) ?_
  refine lv_aload_n hx hb dL_law_1292 rfl (lv_at hl 0 rfl) ?_
  refine lv_iload_n hx hb dL_law_1293 rfl (lv_at hl 3 rfl) ?_
  refine lv_iconst (v := 1) hx hb dL_law_1294 (by decide) ?_
  refine lv_iadd hx hb dL_law_1295 ?_
  refine g_scr (k := 1) (i := i) hc2 hw.2.2 hX hbl hbA (by omega) (by omega) (by rw [← nI_add]; rfl) dL_law_1296 ?_
  refine lv_aload_n hx hb dL_law_1297 rfl (lv_at hl 0 rfl) ?_
  refine lv_iload_n hx hb dL_law_1298 rfl (lv_at hl 3 rfl) ?_
  refine lv_iconst (v := 2) hx hb dL_law_1299 (by decide) ?_
  refine lv_iadd hx hb dL_law_1300 ?_
  refine g_scr (k := 2) (i := i) hc2 hw.2.2 hX hbl hbA (by omega) (by omega) (by rw [← nI_add]; rfl) dL_law_1301 ?_
  refine lv_aload_n hx hb dL_law_1302 rfl (lv_at hl 0 rfl) ?_
  refine lv_iload_n hx hb dL_law_1303 rfl (lv_at hl 3 rfl) ?_
  refine lv_iconst (v := 3) hx hb dL_law_1304 (by decide) ?_
  refine lv_iadd hx hb dL_law_1305 ?_
  refine g_scr (k := 3) (i := i) hc2 hw.2.2 hX hbl hbA (by omega) (by omega) (by rw [← nI_add]; rfl) dL_law_1306 ?_
  refine g_Vl (Γ := Gm2 D cs base K M adC u1) (Y := YM) (ci := 7) (n := 3) (k := 6) (As := [.int (xs (i + 1)), .int (xs (i + 2)), .int (xs (i + 3))]) (rest := [.long r1]) rfl (by decide) vw_L_160 ⟨Nat.le_of_ble_eq_true rfl, Nat.le_of_ble_eq_true rfl, (Nat.le_trans (Nat.le_add_right cells 2) hcs.1), (Nat.le_trans (Nat.le_add_right slots 170) hcs.2)⟩ hc2 hw hl.1 (by decide) rfl (m_X7_chance l (Nat.le_refl 20) (xs (i + 1)) (xs (i + 2)) (xs (i + 3)) σM h) rfl rfl (Nat.le_of_ble_eq_true rfl) dL_law_1307 (fun r2 u2 H locs h hw => ?_)
  obtain ⟨hrr, hR2⟩ := h
  subst hrr
  replace hw := WH_swap2 hw
  refine W.lcmp hx hb dL_law_1310 ?_
  rw [lg_same]
  refine lv_if_eq (tgt := 1577) hx hb dL_law_1311 (by decide) (fun _ => ?_) (fun c => absurd rfl c)
  refine W.widen (k := cells + 2) (n := slots + 170) (by omega) (by omega) ?_
  exact cont M adC u1 u2 _ _ _ hM hR2 hw hl
theorem q_902 : Cond.methodLink RL 161 yX6_image ∈ TB := TB_at 902 (by decide +kernel) rfl
set_option maxRecDepth 100000 in
theorem q_905 : Cond.code yX6_image cX6_image 1 (Option.some Jvm.ClassFile.FieldType.int) ∈ TB := TB_at 905 rfl rfl
theorem q_903 : Cond.instanceMethod yX6_image ∈ TB := TB_at 903 (by decide +kernel) rfl
theorem q_904 : Cond.selects RX6 yX6_image yX6_image ∈ TB := TB_at 904 (by decide +kernel) rfl
theorem vw_L_161 : VW RL 161 RX6 yX6_image cX6_image 1 (Option.some Jvm.ClassFile.FieldType.int) 0 := ⟨q_902, q_903, q_904, q_75, q_905, by decide +kernel⟩
theorem q_1423 : Cond.methodLink RL 164 yX7_image ∈ TB := TB_at 1423 (by decide +kernel) rfl
set_option maxRecDepth 100000 in
theorem q_1426 : Cond.code yX7_image cX7_image 2 (Option.some Jvm.ClassFile.FieldType.int) ∈ TB := TB_at 1426 rfl rfl
theorem q_1424 : Cond.instanceMethod yX7_image ∈ TB := TB_at 1424 (by decide +kernel) rfl
theorem q_1425 : Cond.selects RX7 yX7_image yX7_image ∈ TB := TB_at 1425 (by decide +kernel) rfl
theorem vw_L_164 : VW RL 164 RX7 yX7_image cX7_image 2 (Option.some Jvm.ClassFile.FieldType.int) 0 := ⟨q_1423, q_1424, q_1425, q_89, q_1426, by decide +kernel⟩
set_option maxHeartbeats 4000000 in
set_option maxRecDepth 20000 in
theorem lc_35 {D : va_G} {cs : Nat → ClassId} {base : Nat} {K : (Nat → Nat) × (Nat → Nat) × Nat} {RR : Nat → St → St → Prop} {b L : Nat} {xs : Nat → Int32} {p : Program} {l : Launch} {e : Env} {s : State} {m : MethodId} {args : Array Value} {below : List Frame} {meth : Method} {c : Code} {Q : State → Prop} (hop : ∀ (M : Nat) (σC σM : St) , 53 ≤ M → RR M σC σM → w_X6_image M (fun r u => w_X7_image 20 (fun r2 u2 => r = r2 ∧ RR M u u2)  σM)  σC) (M : Nat) (adC adM : Nat → Nat) (σC σM : St) (H : Heap) (locs : List Loc) (ls : Array Slot) (cells slots i : Nat) (hM : 53 ≤ M) (hR : RR M σC σM) (hc : CX (Gc D cs base K adM σM) p s m args meth c cL_law RL 4) (hw : WH (Gc D cs base K adM σM) YC M adC σC s H locs) (hX : va_X b L xs s s.heap) (hbl : b < s.heap.size) (hbA : b < base) (hi : i + 7 ≤ L) (hL : L ≤ 3584) (hl : lv_has ls 4 [(0, .ref b), (1, .ref (adC 0)), (2, .ref (adM 0)), (3, .int (nI i))]) (hcs : cells + 2 ≤ room_1.cells ∧ slots + 170 ≤ room_1.slots)
    (cont : ∀ (M' : Nat) (adC' : Nat → Nat) (σC' σM' : St) (H : Heap) (locs : List Loc) (ls : Array Slot), 53 ≤ M' → RR M' σC' σM' → WH (Gc D cs base K adM σM') YC M' adC' σC' s H locs → lv_has ls 4 [(0, .ref b), (1, .ref (adC' 0)), (2, .ref (adM 0)), (3, .int (nI i))] → W p l e room_1 s m args below meth c H locs (cells + 2) (slots + 170) Q (F0 m 1577 ls [])) :
    W p l e room_1 s m args below meth c H locs cells slots Q (F0 m 1316 ls []) := by
  have hx := hc.1
  have hb := hc.2.1
  refine lv_aload_n hx hb dL_law_1316 rfl (lv_at hl 1 rfl) ?_
  refine g_Vi (Γ := Gc D cs base K adM σM) (Y := YC) (ci := 6) (n := 0) (k := 2) (As := []) (rest := []) rfl (by decide) vw_L_161 ⟨Nat.le_of_ble_eq_true rfl, Nat.le_of_ble_eq_true rfl, (Nat.le_trans (Nat.le_add_right cells 2) hcs.1), (Nat.le_trans (Nat.le_add_right slots 170) hcs.2)⟩ hc hw hl.1 (by omega) rfl (m_X6_image l hM  σC (hop M σC σM  hM hR)) rfl rfl (Nat.le_of_ble_eq_true rfl) dL_law_1317 (fun r1 u1 H locs h hw => ?_)
  replace hw := WH_swap hw
  have hc2 := CX_swap (M := M) (adC := adC) (σC := u1) hc
  refine lv_aload_n hx hb dL_law_1320 rfl (lv_at hl 2 rfl) ?_
  refine g_Vi (Γ := Gm2 D cs base K M adC u1) (Y := YM) (ci := 7) (n := 0) (k := 0) (As := []) (rest := [.int r1]) rfl (by decide) vw_L_164 ⟨Nat.le_of_ble_eq_true rfl, Nat.le_of_ble_eq_true rfl, (Nat.le_trans (Nat.le_add_right cells 2) hcs.1), (Nat.le_trans (Nat.le_add_right slots 170) hcs.2)⟩ hc2 hw hl.1 (by decide) rfl (m_X7_image l (Nat.le_refl 20)  σM h) rfl rfl (Nat.le_of_ble_eq_true rfl) dL_law_1321 (fun r2 u2 H locs h hw => ?_)
  obtain ⟨hrr, hR2⟩ := h
  subst hrr
  replace hw := WH_swap2 hw
  refine lv_icmp_eq (tgt := 1577) hx hb dL_law_1324 (by decide) (fun _ => ?_) (fun c => absurd rfl c)
  refine W.widen (k := cells + 2) (n := slots + 170) (by omega) (by omega) ?_
  exact cont M adC u1 u2 _ _ _ hM hR2 hw hl
theorem q_915 : Cond.methodLink RL 165 yX6_back ∈ TB := TB_at 915 (by decide +kernel) rfl
set_option maxRecDepth 100000 in
theorem q_918 : Cond.code yX6_back cX6_back 1 (Option.some Jvm.ClassFile.FieldType.int) ∈ TB := TB_at 918 rfl rfl
theorem q_916 : Cond.instanceMethod yX6_back ∈ TB := TB_at 916 (by decide +kernel) rfl
theorem q_917 : Cond.selects RX6 yX6_back yX6_back ∈ TB := TB_at 917 (by decide +kernel) rfl
theorem vw_L_165 : VW RL 165 RX6 yX6_back cX6_back 1 (Option.some Jvm.ClassFile.FieldType.int) 0 := ⟨q_915, q_916, q_917, q_75, q_918, by decide +kernel⟩
theorem q_1427 : Cond.methodLink RL 168 yX7_back ∈ TB := TB_at 1427 (by decide +kernel) rfl
set_option maxRecDepth 100000 in
theorem q_1430 : Cond.code yX7_back cX7_back 2 (Option.some Jvm.ClassFile.FieldType.int) ∈ TB := TB_at 1430 rfl rfl
theorem q_1428 : Cond.instanceMethod yX7_back ∈ TB := TB_at 1428 (by decide +kernel) rfl
theorem q_1429 : Cond.selects RX7 yX7_back yX7_back ∈ TB := TB_at 1429 (by decide +kernel) rfl
theorem vw_L_168 : VW RL 168 RX7 yX7_back cX7_back 2 (Option.some Jvm.ClassFile.FieldType.int) 0 := ⟨q_1427, q_1428, q_1429, q_89, q_1430, by decide +kernel⟩
set_option maxHeartbeats 4000000 in
set_option maxRecDepth 20000 in
theorem lc_36 {D : va_G} {cs : Nat → ClassId} {base : Nat} {K : (Nat → Nat) × (Nat → Nat) × Nat} {RR : Nat → St → St → Prop} {b L : Nat} {xs : Nat → Int32} {p : Program} {l : Launch} {e : Env} {s : State} {m : MethodId} {args : Array Value} {below : List Frame} {meth : Method} {c : Code} {Q : State → Prop} (hop : ∀ (M : Nat) (σC σM : St) , 53 ≤ M → RR M σC σM → w_X6_back M (fun r u => w_X7_back 20 (fun r2 u2 => r = r2 ∧ RR M u u2)  σM)  σC) (M : Nat) (adC adM : Nat → Nat) (σC σM : St) (H : Heap) (locs : List Loc) (ls : Array Slot) (cells slots i : Nat) (hM : 53 ≤ M) (hR : RR M σC σM) (hc : CX (Gc D cs base K adM σM) p s m args meth c cL_law RL 4) (hw : WH (Gc D cs base K adM σM) YC M adC σC s H locs) (hX : va_X b L xs s s.heap) (hbl : b < s.heap.size) (hbA : b < base) (hi : i + 7 ≤ L) (hL : L ≤ 3584) (hl : lv_has ls 4 [(0, .ref b), (1, .ref (adC 0)), (2, .ref (adM 0)), (3, .int (nI i))]) (hcs : cells + 2 ≤ room_1.cells ∧ slots + 170 ≤ room_1.slots)
    (cont : ∀ (M' : Nat) (adC' : Nat → Nat) (σC' σM' : St) (H : Heap) (locs : List Loc) (ls : Array Slot), 53 ≤ M' → RR M' σC' σM' → WH (Gc D cs base K adM σM') YC M' adC' σC' s H locs → lv_has ls 4 [(0, .ref b), (1, .ref (adC' 0)), (2, .ref (adM 0)), (3, .int (nI i))] → W p l e room_1 s m args below meth c H locs (cells + 2) (slots + 170) Q (F0 m 1577 ls [])) :
    W p l e room_1 s m args below meth c H locs cells slots Q (F0 m 1329 ls []) := by
  have hx := hc.1
  have hb := hc.2.1
  refine lv_aload_n hx hb dL_law_1329 rfl (lv_at hl 1 rfl) ?_
  refine g_Vi (Γ := Gc D cs base K adM σM) (Y := YC) (ci := 6) (n := 0) (k := 2) (As := []) (rest := []) rfl (by decide) vw_L_165 ⟨Nat.le_of_ble_eq_true rfl, Nat.le_of_ble_eq_true rfl, (Nat.le_trans (Nat.le_add_right cells 2) hcs.1), (Nat.le_trans (Nat.le_add_right slots 170) hcs.2)⟩ hc hw hl.1 (by omega) rfl (m_X6_back l hM  σC (hop M σC σM  hM hR)) rfl rfl (Nat.le_of_ble_eq_true rfl) dL_law_1330 (fun r1 u1 H locs h hw => ?_)
  replace hw := WH_swap hw
  have hc2 := CX_swap (M := M) (adC := adC) (σC := u1) hc
  refine lv_aload_n hx hb dL_law_1333 rfl (lv_at hl 2 rfl) ?_
  refine g_Vi (Γ := Gm2 D cs base K M adC u1) (Y := YM) (ci := 7) (n := 0) (k := 0) (As := []) (rest := [.int r1]) rfl (by decide) vw_L_168 ⟨Nat.le_of_ble_eq_true rfl, Nat.le_of_ble_eq_true rfl, (Nat.le_trans (Nat.le_add_right cells 2) hcs.1), (Nat.le_trans (Nat.le_add_right slots 170) hcs.2)⟩ hc2 hw hl.1 (by decide) rfl (m_X7_back l (Nat.le_refl 20)  σM h) rfl rfl (Nat.le_of_ble_eq_true rfl) dL_law_1334 (fun r2 u2 H locs h hw => ?_)
  obtain ⟨hrr, hR2⟩ := h
  subst hrr
  replace hw := WH_swap2 hw
  refine lv_icmp_eq (tgt := 1577) hx hb dL_law_1337 (by decide) (fun _ => ?_) (fun c => absurd rfl c)
  refine W.widen (k := cells + 2) (n := slots + 170) (by omega) (by omega) ?_
  exact cont M adC u1 u2 _ _ _ hM hR2 hw hl
theorem q_919 : Cond.methodLink RL 169 yX6_sheet ∈ TB := TB_at 919 (by decide +kernel) rfl
set_option maxRecDepth 100000 in
theorem q_922 : Cond.code yX6_sheet cX6_sheet 5 (Option.some Jvm.ClassFile.FieldType.int) ∈ TB := TB_at 922 rfl rfl
theorem q_920 : Cond.instanceMethod yX6_sheet ∈ TB := TB_at 920 (by decide +kernel) rfl
theorem q_921 : Cond.selects RX6 yX6_sheet yX6_sheet ∈ TB := TB_at 921 (by decide +kernel) rfl
theorem vw_L_169 : VW RL 169 RX6 yX6_sheet cX6_sheet 5 (Option.some Jvm.ClassFile.FieldType.int) 3 := ⟨q_919, q_920, q_921, q_75, q_922, by decide +kernel⟩
theorem q_1431 : Cond.methodLink RL 172 yX7_sheet ∈ TB := TB_at 1431 (by decide +kernel) rfl
theorem vw_L_172 : VW RL 172 RX7 yX7_sheet cX7_sheet 5 (Option.some Jvm.ClassFile.FieldType.int) 3 := ⟨q_1431, q_1393, q_1394, q_89, q_1395, by decide +kernel⟩
set_option maxHeartbeats 4000000 in
set_option maxRecDepth 20000 in
theorem lc_37 {D : va_G} {cs : Nat → ClassId} {base : Nat} {K : (Nat → Nat) × (Nat → Nat) × Nat} {RR : Nat → St → St → Prop} {b L : Nat} {xs : Nat → Int32} {p : Program} {l : Launch} {e : Env} {s : State} {m : MethodId} {args : Array Value} {below : List Frame} {meth : Method} {c : Code} {Q : State → Prop} (hop : ∀ (M : Nat) (σC σM : St) (a1 a2 a3 : Int32) , 53 ≤ M → RR M σC σM → w_X6_sheet M (fun r u => w_X7_sheet 20 (fun r2 u2 => r = r2 ∧ RR M u u2) a1 a2 a3 σM) a1 a2 a3 σC) (M : Nat) (adC adM : Nat → Nat) (σC σM : St) (H : Heap) (locs : List Loc) (ls : Array Slot) (cells slots i : Nat) (hM : 53 ≤ M) (hR : RR M σC σM) (hc : CX (Gc D cs base K adM σM) p s m args meth c cL_law RL 4) (hw : WH (Gc D cs base K adM σM) YC M adC σC s H locs) (hX : va_X b L xs s s.heap) (hbl : b < s.heap.size) (hbA : b < base) (hi : i + 7 ≤ L) (hL : L ≤ 3584) (hl : lv_has ls 4 [(0, .ref b), (1, .ref (adC 0)), (2, .ref (adM 0)), (3, .int (nI i))]) (hcs : cells + 2 ≤ room_1.cells ∧ slots + 170 ≤ room_1.slots)
    (cont : ∀ (M' : Nat) (adC' : Nat → Nat) (σC' σM' : St) (H : Heap) (locs : List Loc) (ls : Array Slot), 53 ≤ M' → RR M' σC' σM' → WH (Gc D cs base K adM σM') YC M' adC' σC' s H locs → lv_has ls 4 [(0, .ref b), (1, .ref (adC' 0)), (2, .ref (adM 0)), (3, .int (nI i))] → W p l e room_1 s m args below meth c H locs (cells + 2) (slots + 170) Q (F0 m 1577 ls [])) :
    W p l e room_1 s m args below meth c H locs cells slots Q (F0 m 1342 ls []) := by
  have hx := hc.1
  have hb := hc.2.1
  refine lv_aload_n hx hb dL_law_1342 rfl (lv_at hl 1 rfl) ?_
  refine lv_aload_n hx hb dL_law_1343 rfl (lv_at hl 0 rfl) ?_
  refine lv_iload_n hx hb dL_law_1344 rfl (lv_at hl 3 rfl) ?_
  refine lv_iconst (v := 1) hx hb dL_law_1345 (by decide) ?_
  refine lv_iadd hx hb dL_law_1346 ?_
  refine g_scr (k := 1) (i := i) hc hw.2.2 hX hbl hbA (by omega) (by omega) (by rw [← nI_add]; rfl) dL_law_1347 ?_
  refine lv_aload_n hx hb dL_law_1348 rfl (lv_at hl 0 rfl) ?_
  refine lv_iload_n hx hb dL_law_1349 rfl (lv_at hl 3 rfl) ?_
  refine lv_iconst (v := 2) hx hb dL_law_1350 (by decide) ?_
  refine lv_iadd hx hb dL_law_1351 ?_
  refine g_scr (k := 2) (i := i) hc hw.2.2 hX hbl hbA (by omega) (by omega) (by rw [← nI_add]; rfl) dL_law_1352 ?_
  refine lv_aload_n hx hb dL_law_1353 rfl (lv_at hl 0 rfl) ?_
  refine lv_iload_n hx hb dL_law_1354 rfl (lv_at hl 3 rfl) ?_
  refine lv_iconst (v := 3) hx hb dL_law_1355 (by decide) ?_
  refine lv_iadd hx hb dL_law_1356 ?_
  refine g_scr (k := 3) (i := i) hc hw.2.2 hX hbl hbA (by omega) (by omega) (by rw [← nI_add]; rfl) dL_law_1357 ?_
  refine g_Vi (Γ := Gc D cs base K adM σM) (Y := YC) (ci := 6) (n := 3) (k := 1) (As := [.int (xs (i + 1)), .int (xs (i + 2)), .int (xs (i + 3))]) (rest := []) rfl (by decide) vw_L_169 ⟨Nat.le_of_ble_eq_true rfl, Nat.le_of_ble_eq_true rfl, (Nat.le_trans (Nat.le_add_right cells 2) hcs.1), (Nat.le_trans (Nat.le_add_right slots 170) hcs.2)⟩ hc hw hl.1 (by omega) rfl (m_X6_sheet l hM (xs (i + 1)) (xs (i + 2)) (xs (i + 3)) σC (hop M σC σM (xs (i + 1)) (xs (i + 2)) (xs (i + 3)) hM hR)) rfl rfl (Nat.le_of_ble_eq_true rfl) dL_law_1358 (fun r1 u1 H locs h hw => ?_)
  replace hw := WH_swap hw
  have hc2 := CX_swap (M := M) (adC := adC) (σC := u1) hc
  refine lv_aload_n hx hb dL_law_1361 rfl (lv_at hl 2 rfl) ?_
  refine lv_aload_n hx hb dL_law_1362 rfl (lv_at hl 0 rfl) ?_
  refine lv_iload_n hx hb dL_law_1363 rfl (lv_at hl 3 rfl) ?_
  refine lv_iconst (v := 1) hx hb dL_law_1364 (by decide) ?_
  refine lv_iadd hx hb dL_law_1365 ?_
  refine g_scr (k := 1) (i := i) hc2 hw.2.2 hX hbl hbA (by omega) (by omega) (by rw [← nI_add]; rfl) dL_law_1366 ?_
  refine lv_aload_n hx hb dL_law_1367 rfl (lv_at hl 0 rfl) ?_
  refine lv_iload_n hx hb dL_law_1368 rfl (lv_at hl 3 rfl) ?_
  refine lv_iconst (v := 2) hx hb dL_law_1369 (by decide) ?_
  refine lv_iadd hx hb dL_law_1370 ?_
  refine g_scr (k := 2) (i := i) hc2 hw.2.2 hX hbl hbA (by omega) (by omega) (by rw [← nI_add]; rfl) dL_law_1371 ?_
  refine lv_aload_n hx hb dL_law_1372 rfl (lv_at hl 0 rfl) ?_
  refine lv_iload_n hx hb dL_law_1373 rfl (lv_at hl 3 rfl) ?_
  refine lv_iconst (v := 3) hx hb dL_law_1374 (by decide) ?_
  refine lv_iadd hx hb dL_law_1375 ?_
  refine g_scr (k := 3) (i := i) hc2 hw.2.2 hX hbl hbA (by omega) (by omega) (by rw [← nI_add]; rfl) dL_law_1376 ?_
  refine g_Vi (Γ := Gm2 D cs base K M adC u1) (Y := YM) (ci := 7) (n := 3) (k := 2) (As := [.int (xs (i + 1)), .int (xs (i + 2)), .int (xs (i + 3))]) (rest := [.int r1]) rfl (by decide) vw_L_172 ⟨Nat.le_of_ble_eq_true rfl, Nat.le_of_ble_eq_true rfl, (Nat.le_trans (Nat.le_add_right cells 2) hcs.1), (Nat.le_trans (Nat.le_add_right slots 170) hcs.2)⟩ hc2 hw hl.1 (by decide) rfl (m_X7_sheet l (Nat.le_refl 20) (xs (i + 1)) (xs (i + 2)) (xs (i + 3)) σM h) rfl rfl (Nat.le_of_ble_eq_true rfl) dL_law_1377 (fun r2 u2 H locs h hw => ?_)
  obtain ⟨hrr, hR2⟩ := h
  subst hrr
  replace hw := WH_swap2 hw
  refine lv_icmp_eq (tgt := 1577) hx hb dL_law_1380 (by decide) (fun _ => ?_) (fun c => absurd rfl c)
  refine W.widen (k := cells + 2) (n := slots + 170) (by omega) (by omega) ?_
  exact cont M adC u1 u2 _ _ _ hM hR2 hw hl
theorem q_923 : Cond.methodLink RL 173 yX6_cell ∈ TB := TB_at 923 (by decide +kernel) rfl
set_option maxRecDepth 100000 in
theorem q_926 : Cond.code yX6_cell cX6_cell 5 (Option.some Jvm.ClassFile.FieldType.int) ∈ TB := TB_at 926 rfl rfl
theorem q_924 : Cond.instanceMethod yX6_cell ∈ TB := TB_at 924 (by decide +kernel) rfl
theorem q_925 : Cond.selects RX6 yX6_cell yX6_cell ∈ TB := TB_at 925 (by decide +kernel) rfl
theorem vw_L_173 : VW RL 173 RX6 yX6_cell cX6_cell 5 (Option.some Jvm.ClassFile.FieldType.int) 3 := ⟨q_923, q_924, q_925, q_75, q_926, by decide +kernel⟩
theorem q_1432 : Cond.methodLink RL 176 yX7_cell ∈ TB := TB_at 1432 (by decide +kernel) rfl
set_option maxRecDepth 100000 in
theorem q_1435 : Cond.code yX7_cell cX7_cell 4 (Option.some Jvm.ClassFile.FieldType.int) ∈ TB := TB_at 1435 rfl rfl
theorem q_1433 : Cond.instanceMethod yX7_cell ∈ TB := TB_at 1433 (by decide +kernel) rfl
theorem q_1434 : Cond.selects RX7 yX7_cell yX7_cell ∈ TB := TB_at 1434 (by decide +kernel) rfl
theorem vw_L_176 : VW RL 176 RX7 yX7_cell cX7_cell 4 (Option.some Jvm.ClassFile.FieldType.int) 3 := ⟨q_1432, q_1433, q_1434, q_89, q_1435, by decide +kernel⟩
set_option maxHeartbeats 4000000 in
set_option maxRecDepth 20000 in
theorem lc_38 {D : va_G} {cs : Nat → ClassId} {base : Nat} {K : (Nat → Nat) × (Nat → Nat) × Nat} {RR : Nat → St → St → Prop} {b L : Nat} {xs : Nat → Int32} {p : Program} {l : Launch} {e : Env} {s : State} {m : MethodId} {args : Array Value} {below : List Frame} {meth : Method} {c : Code} {Q : State → Prop} (hop : ∀ (M : Nat) (σC σM : St) (a1 a2 a3 : Int32) , 53 ≤ M → RR M σC σM → w_X6_cell M (fun r u => w_X7_cell 20 (fun r2 u2 => r = r2 ∧ RR M u u2) a1 a2 a3 σM) a1 a2 a3 σC) (M : Nat) (adC adM : Nat → Nat) (σC σM : St) (H : Heap) (locs : List Loc) (ls : Array Slot) (cells slots i : Nat) (hM : 53 ≤ M) (hR : RR M σC σM) (hc : CX (Gc D cs base K adM σM) p s m args meth c cL_law RL 4) (hw : WH (Gc D cs base K adM σM) YC M adC σC s H locs) (hX : va_X b L xs s s.heap) (hbl : b < s.heap.size) (hbA : b < base) (hi : i + 7 ≤ L) (hL : L ≤ 3584) (hl : lv_has ls 4 [(0, .ref b), (1, .ref (adC 0)), (2, .ref (adM 0)), (3, .int (nI i))]) (hcs : cells + 2 ≤ room_1.cells ∧ slots + 170 ≤ room_1.slots)
    (cont : ∀ (M' : Nat) (adC' : Nat → Nat) (σC' σM' : St) (H : Heap) (locs : List Loc) (ls : Array Slot), 53 ≤ M' → RR M' σC' σM' → WH (Gc D cs base K adM σM') YC M' adC' σC' s H locs → lv_has ls 4 [(0, .ref b), (1, .ref (adC' 0)), (2, .ref (adM 0)), (3, .int (nI i))] → W p l e room_1 s m args below meth c H locs (cells + 2) (slots + 170) Q (F0 m 1577 ls [])) :
    W p l e room_1 s m args below meth c H locs cells slots Q (F0 m 1385 ls []) := by
  have hx := hc.1
  have hb := hc.2.1
  refine lv_aload_n hx hb dL_law_1385 rfl (lv_at hl 1 rfl) ?_
  refine lv_aload_n hx hb dL_law_1386 rfl (lv_at hl 0 rfl) ?_
  refine lv_iload_n hx hb dL_law_1387 rfl (lv_at hl 3 rfl) ?_
  refine lv_iconst (v := 1) hx hb dL_law_1388 (by decide) ?_
  refine lv_iadd hx hb dL_law_1389 ?_
  refine g_scr (k := 1) (i := i) hc hw.2.2 hX hbl hbA (by omega) (by omega) (by rw [← nI_add]; rfl) dL_law_1390 ?_
  refine lv_aload_n hx hb dL_law_1391 rfl (lv_at hl 0 rfl) ?_
  refine lv_iload_n hx hb dL_law_1392 rfl (lv_at hl 3 rfl) ?_
  refine lv_iconst (v := 2) hx hb dL_law_1393 (by decide) ?_
  refine lv_iadd hx hb dL_law_1394 ?_
  refine g_scr (k := 2) (i := i) hc hw.2.2 hX hbl hbA (by omega) (by omega) (by rw [← nI_add]; rfl) dL_law_1395 ?_
  refine lv_aload_n hx hb dL_law_1396 rfl (lv_at hl 0 rfl) ?_
  refine lv_iload_n hx hb dL_law_1397 rfl (lv_at hl 3 rfl) ?_
  refine lv_iconst (v := 3) hx hb dL_law_1398 (by decide) ?_
  refine lv_iadd hx hb dL_law_1399 ?_
  refine g_scr (k := 3) (i := i) hc hw.2.2 hX hbl hbA (by omega) (by omega) (by rw [← nI_add]; rfl) dL_law_1400 ?_
  refine g_Vi (Γ := Gc D cs base K adM σM) (Y := YC) (ci := 6) (n := 3) (k := 2) (As := [.int (xs (i + 1)), .int (xs (i + 2)), .int (xs (i + 3))]) (rest := []) rfl (by decide) vw_L_173 ⟨Nat.le_of_ble_eq_true rfl, Nat.le_of_ble_eq_true rfl, (Nat.le_trans (Nat.le_add_right cells 2) hcs.1), (Nat.le_trans (Nat.le_add_right slots 170) hcs.2)⟩ hc hw hl.1 (by omega) rfl (m_X6_cell l hM (xs (i + 1)) (xs (i + 2)) (xs (i + 3)) σC (hop M σC σM (xs (i + 1)) (xs (i + 2)) (xs (i + 3)) hM hR)) rfl rfl (Nat.le_of_ble_eq_true rfl) dL_law_1401 (fun r1 u1 H locs h hw => ?_)
  replace hw := WH_swap hw
  have hc2 := CX_swap (M := M) (adC := adC) (σC := u1) hc
  refine lv_aload_n hx hb dL_law_1404 rfl (lv_at hl 2 rfl) ?_
  refine lv_aload_n hx hb dL_law_1405 rfl (lv_at hl 0 rfl) ?_
  refine lv_iload_n hx hb dL_law_1406 rfl (lv_at hl 3 rfl) ?_
  refine lv_iconst (v := 1) hx hb dL_law_1407 (by decide) ?_
  refine lv_iadd hx hb dL_law_1408 ?_
  refine g_scr (k := 1) (i := i) hc2 hw.2.2 hX hbl hbA (by omega) (by omega) (by rw [← nI_add]; rfl) dL_law_1409 ?_
  refine lv_aload_n hx hb dL_law_1410 rfl (lv_at hl 0 rfl) ?_
  refine lv_iload_n hx hb dL_law_1411 rfl (lv_at hl 3 rfl) ?_
  refine lv_iconst (v := 2) hx hb dL_law_1412 (by decide) ?_
  refine lv_iadd hx hb dL_law_1413 ?_
  refine g_scr (k := 2) (i := i) hc2 hw.2.2 hX hbl hbA (by omega) (by omega) (by rw [← nI_add]; rfl) dL_law_1414 ?_
  refine lv_aload_n hx hb dL_law_1415 rfl (lv_at hl 0 rfl) ?_
  refine lv_iload_n hx hb dL_law_1416 rfl (lv_at hl 3 rfl) ?_
  refine lv_iconst (v := 3) hx hb dL_law_1417 (by decide) ?_
  refine lv_iadd hx hb dL_law_1418 ?_
  refine g_scr (k := 3) (i := i) hc2 hw.2.2 hX hbl hbA (by omega) (by omega) (by rw [← nI_add]; rfl) dL_law_1419 ?_
  refine g_Vi (Γ := Gm2 D cs base K M adC u1) (Y := YM) (ci := 7) (n := 3) (k := 2) (As := [.int (xs (i + 1)), .int (xs (i + 2)), .int (xs (i + 3))]) (rest := [.int r1]) rfl (by decide) vw_L_176 ⟨Nat.le_of_ble_eq_true rfl, Nat.le_of_ble_eq_true rfl, (Nat.le_trans (Nat.le_add_right cells 2) hcs.1), (Nat.le_trans (Nat.le_add_right slots 170) hcs.2)⟩ hc2 hw hl.1 (by decide) rfl (m_X7_cell l (Nat.le_refl 20) (xs (i + 1)) (xs (i + 2)) (xs (i + 3)) σM h) rfl rfl (Nat.le_of_ble_eq_true rfl) dL_law_1420 (fun r2 u2 H locs h hw => ?_)
  obtain ⟨hrr, hR2⟩ := h
  subst hrr
  replace hw := WH_swap2 hw
  refine lv_icmp_eq (tgt := 1577) hx hb dL_law_1423 (by decide) (fun _ => ?_) (fun c => absurd rfl c)
  refine W.widen (k := cells + 2) (n := slots + 170) (by omega) (by omega) ?_
  exact cont M adC u1 u2 _ _ _ hM hR2 hw hl
theorem q_928 : Cond.methodLink RL 177 yX6_copy ∈ TB := TB_at 928 (by decide +kernel) rfl
set_option maxRecDepth 100000 in
theorem q_931 : Cond.code yX6_copy cX6_copy 8 (Option.some Jvm.ClassFile.FieldType.int) ∈ TB := TB_at 931 rfl rfl
theorem q_929 : Cond.instanceMethod yX6_copy ∈ TB := TB_at 929 (by decide +kernel) rfl
theorem q_930 : Cond.selects RX6 yX6_copy yX6_copy ∈ TB := TB_at 930 (by decide +kernel) rfl
theorem vw_L_177 : VW RL 177 RX6 yX6_copy cX6_copy 8 (Option.some Jvm.ClassFile.FieldType.int) 5 := ⟨q_928, q_929, q_930, q_75, q_931, by decide +kernel⟩
theorem q_1436 : Cond.methodLink RL 180 yX7_copy ∈ TB := TB_at 1436 (by decide +kernel) rfl
set_option maxRecDepth 100000 in
theorem q_1439 : Cond.code yX7_copy cX7_copy 7 (Option.some Jvm.ClassFile.FieldType.int) ∈ TB := TB_at 1439 rfl rfl
theorem q_1437 : Cond.instanceMethod yX7_copy ∈ TB := TB_at 1437 (by decide +kernel) rfl
theorem q_1438 : Cond.selects RX7 yX7_copy yX7_copy ∈ TB := TB_at 1438 (by decide +kernel) rfl
theorem vw_L_180 : VW RL 180 RX7 yX7_copy cX7_copy 7 (Option.some Jvm.ClassFile.FieldType.int) 5 := ⟨q_1436, q_1437, q_1438, q_89, q_1439, by decide +kernel⟩
set_option maxHeartbeats 4000000 in
set_option maxRecDepth 20000 in
theorem lc_39 {D : va_G} {cs : Nat → ClassId} {base : Nat} {K : (Nat → Nat) × (Nat → Nat) × Nat} {RR : Nat → St → St → Prop} {b L : Nat} {xs : Nat → Int32} {p : Program} {l : Launch} {e : Env} {s : State} {m : MethodId} {args : Array Value} {below : List Frame} {meth : Method} {c : Code} {Q : State → Prop} (hop : ∀ (M : Nat) (σC σM : St) (a1 a2 a3 a4 a5 : Int32) , 53 ≤ M → RR M σC σM → w_X6_copy M (fun r u => w_X7_copy 20 (fun r2 u2 => r = r2 ∧ RR M u u2) a1 a2 a3 a4 a5 σM) a1 a2 a3 a4 a5 σC) (M : Nat) (adC adM : Nat → Nat) (σC σM : St) (H : Heap) (locs : List Loc) (ls : Array Slot) (cells slots i : Nat) (hM : 53 ≤ M) (hR : RR M σC σM) (hc : CX (Gc D cs base K adM σM) p s m args meth c cL_law RL 4) (hw : WH (Gc D cs base K adM σM) YC M adC σC s H locs) (hX : va_X b L xs s s.heap) (hbl : b < s.heap.size) (hbA : b < base) (hi : i + 7 ≤ L) (hL : L ≤ 3584) (hl : lv_has ls 4 [(0, .ref b), (1, .ref (adC 0)), (2, .ref (adM 0)), (3, .int (nI i))]) (hcs : cells + 2 ≤ room_1.cells ∧ slots + 170 ≤ room_1.slots)
    (cont : ∀ (M' : Nat) (adC' : Nat → Nat) (σC' σM' : St) (H : Heap) (locs : List Loc) (ls : Array Slot), 53 ≤ M' → RR M' σC' σM' → WH (Gc D cs base K adM σM') YC M' adC' σC' s H locs → lv_has ls 4 [(0, .ref b), (1, .ref (adC' 0)), (2, .ref (adM 0)), (3, .int (nI i))] → W p l e room_1 s m args below meth c H locs (cells + 2) (slots + 170) Q (F0 m 1577 ls [])) :
    W p l e room_1 s m args below meth c H locs cells slots Q (F0 m 1428 ls []) := by
  have hx := hc.1
  have hb := hc.2.1
  refine lv_aload_n hx hb dL_law_1428 rfl (lv_at hl 1 rfl) ?_
  refine lv_aload_n hx hb dL_law_1429 rfl (lv_at hl 0 rfl) ?_
  refine lv_iload_n hx hb dL_law_1430 rfl (lv_at hl 3 rfl) ?_
  refine lv_iconst (v := 1) hx hb dL_law_1431 (by decide) ?_
  refine lv_iadd hx hb dL_law_1432 ?_
  refine g_scr (k := 1) (i := i) hc hw.2.2 hX hbl hbA (by omega) (by omega) (by rw [← nI_add]; rfl) dL_law_1433 ?_
  refine lv_aload_n hx hb dL_law_1434 rfl (lv_at hl 0 rfl) ?_
  refine lv_iload_n hx hb dL_law_1435 rfl (lv_at hl 3 rfl) ?_
  refine lv_iconst (v := 2) hx hb dL_law_1436 (by decide) ?_
  refine lv_iadd hx hb dL_law_1437 ?_
  refine g_scr (k := 2) (i := i) hc hw.2.2 hX hbl hbA (by omega) (by omega) (by rw [← nI_add]; rfl) dL_law_1438 ?_
  refine lv_aload_n hx hb dL_law_1439 rfl (lv_at hl 0 rfl) ?_
  refine lv_iload_n hx hb dL_law_1440 rfl (lv_at hl 3 rfl) ?_
  refine lv_iconst (v := 3) hx hb dL_law_1441 (by decide) ?_
  refine lv_iadd hx hb dL_law_1442 ?_
  refine g_scr (k := 3) (i := i) hc hw.2.2 hX hbl hbA (by omega) (by omega) (by rw [← nI_add]; rfl) dL_law_1443 ?_
  refine lv_aload_n hx hb dL_law_1444 rfl (lv_at hl 0 rfl) ?_
  refine lv_iload_n hx hb dL_law_1445 rfl (lv_at hl 3 rfl) ?_
  refine lv_iconst (v := 4) hx hb dL_law_1446 (by decide) ?_
  refine lv_iadd hx hb dL_law_1447 ?_
  refine g_scr (k := 4) (i := i) hc hw.2.2 hX hbl hbA (by omega) (by omega) (by rw [← nI_add]; rfl) dL_law_1448 ?_
  refine lv_aload_n hx hb dL_law_1449 rfl (lv_at hl 0 rfl) ?_
  refine lv_iload_n hx hb dL_law_1450 rfl (lv_at hl 3 rfl) ?_
  refine lv_iconst (v := 5) hx hb dL_law_1451 (by decide) ?_
  refine lv_iadd hx hb dL_law_1452 ?_
  refine g_scr (k := 5) (i := i) hc hw.2.2 hX hbl hbA (by omega) (by omega) (by rw [← nI_add]; rfl) dL_law_1453 ?_
  refine g_Vi (Γ := Gc D cs base K adM σM) (Y := YC) (ci := 6) (n := 5) (k := 2) (As := [.int (xs (i + 1)), .int (xs (i + 2)), .int (xs (i + 3)), .int (xs (i + 4)), .int (xs (i + 5))]) (rest := []) rfl (by decide) vw_L_177 ⟨Nat.le_of_ble_eq_true rfl, Nat.le_of_ble_eq_true rfl, (Nat.le_trans (Nat.le_add_right cells 2) hcs.1), (Nat.le_trans (Nat.le_add_right slots 170) hcs.2)⟩ hc hw hl.1 (by omega) rfl (m_X6_copy l hM (xs (i + 1)) (xs (i + 2)) (xs (i + 3)) (xs (i + 4)) (xs (i + 5)) σC (hop M σC σM (xs (i + 1)) (xs (i + 2)) (xs (i + 3)) (xs (i + 4)) (xs (i + 5)) hM hR)) rfl rfl (Nat.le_of_ble_eq_true rfl) dL_law_1454 (fun r1 u1 H locs h hw => ?_)
  replace hw := WH_swap hw
  have hc2 := CX_swap (M := M) (adC := adC) (σC := u1) hc
  refine lv_aload_n hx hb dL_law_1457 rfl (lv_at hl 2 rfl) ?_
  refine lv_aload_n hx hb dL_law_1458 rfl (lv_at hl 0 rfl) ?_
  refine lv_iload_n hx hb dL_law_1459 rfl (lv_at hl 3 rfl) ?_
  refine lv_iconst (v := 1) hx hb dL_law_1460 (by decide) ?_
  refine lv_iadd hx hb dL_law_1461 ?_
  refine g_scr (k := 1) (i := i) hc2 hw.2.2 hX hbl hbA (by omega) (by omega) (by rw [← nI_add]; rfl) dL_law_1462 ?_
  refine lv_aload_n hx hb dL_law_1463 rfl (lv_at hl 0 rfl) ?_
  refine lv_iload_n hx hb dL_law_1464 rfl (lv_at hl 3 rfl) ?_
  refine lv_iconst (v := 2) hx hb dL_law_1465 (by decide) ?_
  refine lv_iadd hx hb dL_law_1466 ?_
  refine g_scr (k := 2) (i := i) hc2 hw.2.2 hX hbl hbA (by omega) (by omega) (by rw [← nI_add]; rfl) dL_law_1467 ?_
  refine lv_aload_n hx hb dL_law_1468 rfl (lv_at hl 0 rfl) ?_
  refine lv_iload_n hx hb dL_law_1469 rfl (lv_at hl 3 rfl) ?_
  refine lv_iconst (v := 3) hx hb dL_law_1470 (by decide) ?_
  refine lv_iadd hx hb dL_law_1471 ?_
  refine g_scr (k := 3) (i := i) hc2 hw.2.2 hX hbl hbA (by omega) (by omega) (by rw [← nI_add]; rfl) dL_law_1472 ?_
  refine lv_aload_n hx hb dL_law_1473 rfl (lv_at hl 0 rfl) ?_
  refine lv_iload_n hx hb dL_law_1474 rfl (lv_at hl 3 rfl) ?_
  refine lv_iconst (v := 4) hx hb dL_law_1475 (by decide) ?_
  refine lv_iadd hx hb dL_law_1476 ?_
  refine g_scr (k := 4) (i := i) hc2 hw.2.2 hX hbl hbA (by omega) (by omega) (by rw [← nI_add]; rfl) dL_law_1477 ?_
  refine lv_aload_n hx hb dL_law_1478 rfl (lv_at hl 0 rfl) ?_
  refine lv_iload_n hx hb dL_law_1479 rfl (lv_at hl 3 rfl) ?_
  refine lv_iconst (v := 5) hx hb dL_law_1480 (by decide) ?_
  refine lv_iadd hx hb dL_law_1481 ?_
  refine g_scr (k := 5) (i := i) hc2 hw.2.2 hX hbl hbA (by omega) (by omega) (by rw [← nI_add]; rfl) dL_law_1482 ?_
  refine g_Vi (Γ := Gm2 D cs base K M adC u1) (Y := YM) (ci := 7) (n := 5) (k := 2) (As := [.int (xs (i + 1)), .int (xs (i + 2)), .int (xs (i + 3)), .int (xs (i + 4)), .int (xs (i + 5))]) (rest := [.int r1]) rfl (by decide) vw_L_180 ⟨Nat.le_of_ble_eq_true rfl, Nat.le_of_ble_eq_true rfl, (Nat.le_trans (Nat.le_add_right cells 2) hcs.1), (Nat.le_trans (Nat.le_add_right slots 170) hcs.2)⟩ hc2 hw hl.1 (by decide) rfl (m_X7_copy l (Nat.le_refl 20) (xs (i + 1)) (xs (i + 2)) (xs (i + 3)) (xs (i + 4)) (xs (i + 5)) σM h) rfl rfl (Nat.le_of_ble_eq_true rfl) dL_law_1483 (fun r2 u2 H locs h hw => ?_)
  obtain ⟨hrr, hR2⟩ := h
  subst hrr
  replace hw := WH_swap2 hw
  refine lv_icmp_eq (tgt := 1577) hx hb dL_law_1486 (by decide) (fun _ => ?_) (fun c => absurd rfl c)
  refine W.widen (k := cells + 2) (n := slots + 170) (by omega) (by omega) ?_
  exact cont M adC u1 u2 _ _ _ hM hR2 hw hl
theorem q_937 : Cond.methodLink RL 181 yX6_actsBy ∈ TB := TB_at 937 (by decide +kernel) rfl
set_option maxRecDepth 100000 in
theorem q_940 : Cond.code yX6_actsBy cX6_actsBy 9 (Option.some Jvm.ClassFile.FieldType.int) ∈ TB := TB_at 940 rfl rfl
theorem q_938 : Cond.instanceMethod yX6_actsBy ∈ TB := TB_at 938 (by decide +kernel) rfl
theorem q_939 : Cond.selects RX6 yX6_actsBy yX6_actsBy ∈ TB := TB_at 939 (by decide +kernel) rfl
theorem vw_L_181 : VW RL 181 RX6 yX6_actsBy cX6_actsBy 9 (Option.some Jvm.ClassFile.FieldType.int) 4 := ⟨q_937, q_938, q_939, q_75, q_940, by decide +kernel⟩
theorem q_1440 : Cond.methodLink RL 185 yX7_actsBy ∈ TB := TB_at 1440 (by decide +kernel) rfl
set_option maxRecDepth 100000 in
theorem q_1443 : Cond.code yX7_actsBy cX7_actsBy 8 (Option.some Jvm.ClassFile.FieldType.int) ∈ TB := TB_at 1443 rfl rfl
theorem q_1441 : Cond.instanceMethod yX7_actsBy ∈ TB := TB_at 1441 (by decide +kernel) rfl
theorem q_1442 : Cond.selects RX7 yX7_actsBy yX7_actsBy ∈ TB := TB_at 1442 (by decide +kernel) rfl
theorem vw_L_185 : VW RL 185 RX7 yX7_actsBy cX7_actsBy 8 (Option.some Jvm.ClassFile.FieldType.int) 4 := ⟨q_1440, q_1441, q_1442, q_89, q_1443, by decide +kernel⟩
set_option maxHeartbeats 4000000 in
set_option maxRecDepth 20000 in
theorem lc_40 {D : va_G} {cs : Nat → ClassId} {base : Nat} {K : (Nat → Nat) × (Nat → Nat) × Nat} {RR : Nat → St → St → Prop} {b L : Nat} {xs : Nat → Int32} {p : Program} {l : Launch} {e : Env} {s : State} {m : MethodId} {args : Array Value} {below : List Frame} {meth : Method} {c : Code} {Q : State → Prop} (hop : ∀ (M : Nat) (σC σM : St) (a1 a2 a3 a4 : Int32) , 53 ≤ M → RR M σC σM → w_X6_actsBy M (fun r u => w_X7_actsBy 20 (fun r2 u2 => r = r2 ∧ RR M u u2) a1 a2 a3 a4 σM) a1 a2 a3 a4 σC) (M : Nat) (adC adM : Nat → Nat) (σC σM : St) (H : Heap) (locs : List Loc) (ls : Array Slot) (cells slots i : Nat) (hM : 53 ≤ M) (hR : RR M σC σM) (hc : CX (Gc D cs base K adM σM) p s m args meth c cL_law RL 4) (hw : WH (Gc D cs base K adM σM) YC M adC σC s H locs) (hX : va_X b L xs s s.heap) (hbl : b < s.heap.size) (hbA : b < base) (hi : i + 7 ≤ L) (hL : L ≤ 3584) (hl : lv_has ls 4 [(0, .ref b), (1, .ref (adC 0)), (2, .ref (adM 0)), (3, .int (nI i))]) (hcs : cells + 2 ≤ room_1.cells ∧ slots + 170 ≤ room_1.slots)
    (cont : ∀ (M' : Nat) (adC' : Nat → Nat) (σC' σM' : St) (H : Heap) (locs : List Loc) (ls : Array Slot), 53 ≤ M' → RR M' σC' σM' → WH (Gc D cs base K adM σM') YC M' adC' σC' s H locs → lv_has ls 4 [(0, .ref b), (1, .ref (adC' 0)), (2, .ref (adM 0)), (3, .int (nI i))] → W p l e room_1 s m args below meth c H locs (cells + 2) (slots + 170) Q (F0 m 1577 ls [])) :
    W p l e room_1 s m args below meth c H locs cells slots Q (F0 m 1491 ls []) := by
  have hx := hc.1
  have hb := hc.2.1
  refine lv_aload_n hx hb dL_law_1491 rfl (lv_at hl 1 rfl) ?_
  refine lv_aload_n hx hb dL_law_1492 rfl (lv_at hl 0 rfl) ?_
  refine lv_iload_n hx hb dL_law_1493 rfl (lv_at hl 3 rfl) ?_
  refine lv_iconst (v := 1) hx hb dL_law_1494 (by decide) ?_
  refine lv_iadd hx hb dL_law_1495 ?_
  refine g_scr (k := 1) (i := i) hc hw.2.2 hX hbl hbA (by omega) (by omega) (by rw [← nI_add]; rfl) dL_law_1496 ?_
  refine lv_aload_n hx hb dL_law_1497 rfl (lv_at hl 0 rfl) ?_
  refine lv_iload_n hx hb dL_law_1498 rfl (lv_at hl 3 rfl) ?_
  refine lv_iconst (v := 2) hx hb dL_law_1499 (by decide) ?_
  refine lv_iadd hx hb dL_law_1500 ?_
  refine g_scr (k := 2) (i := i) hc hw.2.2 hX hbl hbA (by omega) (by omega) (by rw [← nI_add]; rfl) dL_law_1501 ?_
  refine lv_aload_n hx hb dL_law_1502 rfl (lv_at hl 0 rfl) ?_
  refine lv_iload_n hx hb dL_law_1503 rfl (lv_at hl 3 rfl) ?_
  refine lv_iconst (v := 3) hx hb dL_law_1504 (by decide) ?_
  refine lv_iadd hx hb dL_law_1505 ?_
  refine g_scr (k := 3) (i := i) hc hw.2.2 hX hbl hbA (by omega) (by omega) (by rw [← nI_add]; rfl) dL_law_1506 ?_
  refine lv_aload_n hx hb dL_law_1507 rfl (lv_at hl 0 rfl) ?_
  refine lv_iload_n hx hb dL_law_1508 rfl (lv_at hl 3 rfl) ?_
  refine lv_iconst (v := 4) hx hb dL_law_1509 (by decide) ?_
  refine lv_iadd hx hb dL_law_1510 ?_
  refine g_scr (k := 4) (i := i) hc hw.2.2 hX hbl hbA (by omega) (by omega) (by rw [← nI_add]; rfl) dL_law_1511 ?_
  refine g_Vi (Γ := Gc D cs base K adM σM) (Y := YC) (ci := 6) (n := 4) (k := 2) (As := [.int (xs (i + 1)), .int (xs (i + 2)), .int (xs (i + 3)), .int (xs (i + 4))]) (rest := []) rfl (by decide) vw_L_181 ⟨Nat.le_of_ble_eq_true rfl, Nat.le_of_ble_eq_true rfl, (Nat.le_trans (Nat.le_add_right cells 2) hcs.1), (Nat.le_trans (Nat.le_add_right slots 170) hcs.2)⟩ hc hw hl.1 (by omega) rfl (m_X6_actsBy l hM (xs (i + 1)) (xs (i + 2)) (xs (i + 3)) (xs (i + 4)) σC (hop M σC σM (xs (i + 1)) (xs (i + 2)) (xs (i + 3)) (xs (i + 4)) hM hR)) rfl rfl (Nat.le_of_ble_eq_true rfl) dL_law_1512 (fun r1 u1 H locs h hw => ?_)
  replace hw := WH_swap hw
  have hc2 := CX_swap (M := M) (adC := adC) (σC := u1) hc
  refine lv_aload_n hx hb dL_law_1515 rfl (lv_at hl 2 rfl) ?_
  refine lv_aload_n hx hb dL_law_1516 rfl (lv_at hl 0 rfl) ?_
  refine lv_iload_n hx hb dL_law_1517 rfl (lv_at hl 3 rfl) ?_
  refine lv_iconst (v := 1) hx hb dL_law_1518 (by decide) ?_
  refine lv_iadd hx hb dL_law_1519 ?_
  refine g_scr (k := 1) (i := i) hc2 hw.2.2 hX hbl hbA (by omega) (by omega) (by rw [← nI_add]; rfl) dL_law_1520 ?_
  refine lv_aload_n hx hb dL_law_1521 rfl (lv_at hl 0 rfl) ?_
  refine lv_iload_n hx hb dL_law_1522 rfl (lv_at hl 3 rfl) ?_
  refine lv_iconst (v := 2) hx hb dL_law_1523 (by decide) ?_
  refine lv_iadd hx hb dL_law_1524 ?_
  refine g_scr (k := 2) (i := i) hc2 hw.2.2 hX hbl hbA (by omega) (by omega) (by rw [← nI_add]; rfl) dL_law_1525 ?_
  refine lv_aload_n hx hb dL_law_1526 rfl (lv_at hl 0 rfl) ?_
  refine lv_iload_n hx hb dL_law_1527 rfl (lv_at hl 3 rfl) ?_
  refine lv_iconst (v := 3) hx hb dL_law_1528 (by decide) ?_
  refine lv_iadd hx hb dL_law_1529 ?_
  refine g_scr (k := 3) (i := i) hc2 hw.2.2 hX hbl hbA (by omega) (by omega) (by rw [← nI_add]; rfl) dL_law_1530 ?_
  refine lv_aload_n hx hb dL_law_1531 rfl (lv_at hl 0 rfl) ?_
  refine lv_iload_n hx hb dL_law_1532 rfl (lv_at hl 3 rfl) ?_
  refine lv_iconst (v := 4) hx hb dL_law_1533 (by decide) ?_
  refine lv_iadd hx hb dL_law_1534 ?_
  refine g_scr (k := 4) (i := i) hc2 hw.2.2 hX hbl hbA (by omega) (by omega) (by rw [← nI_add]; rfl) dL_law_1535 ?_
  refine g_Vi (Γ := Gm2 D cs base K M adC u1) (Y := YM) (ci := 7) (n := 4) (k := 2) (As := [.int (xs (i + 1)), .int (xs (i + 2)), .int (xs (i + 3)), .int (xs (i + 4))]) (rest := [.int r1]) rfl (by decide) vw_L_185 ⟨Nat.le_of_ble_eq_true rfl, Nat.le_of_ble_eq_true rfl, (Nat.le_trans (Nat.le_add_right cells 2) hcs.1), (Nat.le_trans (Nat.le_add_right slots 170) hcs.2)⟩ hc2 hw hl.1 (by decide) rfl (m_X7_actsBy l (Nat.le_refl 20) (xs (i + 1)) (xs (i + 2)) (xs (i + 3)) (xs (i + 4)) σM h) rfl rfl (Nat.le_of_ble_eq_true rfl) dL_law_1536 (fun r2 u2 H locs h hw => ?_)
  obtain ⟨hrr, hR2⟩ := h
  subst hrr
  replace hw := WH_swap2 hw
  refine lv_icmp_eq (tgt := 1577) hx hb dL_law_1539 (by decide) (fun _ => ?_) (fun c => absurd rfl c)
  refine W.widen (k := cells + 2) (n := slots + 170) (by omega) (by omega) ?_
  exact cont M adC u1 u2 _ _ _ hM hR2 hw hl
theorem q_942 : Cond.methodLink RL 186 yX6_taken ∈ TB := TB_at 942 (by decide +kernel) rfl
set_option maxRecDepth 100000 in
theorem q_945 : Cond.code yX6_taken cX6_taken 5 (Option.some Jvm.ClassFile.FieldType.int) ∈ TB := TB_at 945 rfl rfl
theorem q_943 : Cond.instanceMethod yX6_taken ∈ TB := TB_at 943 (by decide +kernel) rfl
theorem q_944 : Cond.selects RX6 yX6_taken yX6_taken ∈ TB := TB_at 944 (by decide +kernel) rfl
theorem vw_L_186 : VW RL 186 RX6 yX6_taken cX6_taken 5 (Option.some Jvm.ClassFile.FieldType.int) 2 := ⟨q_942, q_943, q_944, q_75, q_945, by decide +kernel⟩
theorem q_1446 : Cond.methodLink RL 189 yX7_taken ∈ TB := TB_at 1446 (by decide +kernel) rfl
set_option maxRecDepth 100000 in
theorem q_1449 : Cond.code yX7_taken cX7_taken 3 (Option.some Jvm.ClassFile.FieldType.int) ∈ TB := TB_at 1449 rfl rfl
theorem q_1447 : Cond.instanceMethod yX7_taken ∈ TB := TB_at 1447 (by decide +kernel) rfl
theorem q_1448 : Cond.selects RX7 yX7_taken yX7_taken ∈ TB := TB_at 1448 (by decide +kernel) rfl
theorem vw_L_189 : VW RL 189 RX7 yX7_taken cX7_taken 3 (Option.some Jvm.ClassFile.FieldType.int) 2 := ⟨q_1446, q_1447, q_1448, q_89, q_1449, by decide +kernel⟩
set_option maxHeartbeats 4000000 in
set_option maxRecDepth 20000 in
theorem lc_41 {D : va_G} {cs : Nat → ClassId} {base : Nat} {K : (Nat → Nat) × (Nat → Nat) × Nat} {RR : Nat → St → St → Prop} {b L : Nat} {xs : Nat → Int32} {p : Program} {l : Launch} {e : Env} {s : State} {m : MethodId} {args : Array Value} {below : List Frame} {meth : Method} {c : Code} {Q : State → Prop} (hop : ∀ (M : Nat) (σC σM : St) (a1 a2 : Int32) , 53 ≤ M → RR M σC σM → w_X6_taken M (fun r u => w_X7_taken 20 (fun r2 u2 => r = r2 ∧ RR M u u2) a1 a2 σM) a1 a2 σC) (M : Nat) (adC adM : Nat → Nat) (σC σM : St) (H : Heap) (locs : List Loc) (ls : Array Slot) (cells slots i : Nat) (hM : 53 ≤ M) (hR : RR M σC σM) (hc : CX (Gc D cs base K adM σM) p s m args meth c cL_law RL 4) (hw : WH (Gc D cs base K adM σM) YC M adC σC s H locs) (hX : va_X b L xs s s.heap) (hbl : b < s.heap.size) (hbA : b < base) (hi : i + 7 ≤ L) (hL : L ≤ 3584) (hl : lv_has ls 4 [(0, .ref b), (1, .ref (adC 0)), (2, .ref (adM 0)), (3, .int (nI i))]) (hcs : cells + 2 ≤ room_1.cells ∧ slots + 170 ≤ room_1.slots)
    (cont : ∀ (M' : Nat) (adC' : Nat → Nat) (σC' σM' : St) (H : Heap) (locs : List Loc) (ls : Array Slot), 53 ≤ M' → RR M' σC' σM' → WH (Gc D cs base K adM σM') YC M' adC' σC' s H locs → lv_has ls 4 [(0, .ref b), (1, .ref (adC' 0)), (2, .ref (adM 0)), (3, .int (nI i))] → W p l e room_1 s m args below meth c H locs (cells + 2) (slots + 170) Q (F0 m 1577 ls [])) :
    W p l e room_1 s m args below meth c H locs cells slots Q (F0 m 1544 ls []) := by
  have hx := hc.1
  have hb := hc.2.1
  refine lv_aload_n hx hb dL_law_1544 rfl (lv_at hl 1 rfl) ?_
  refine lv_aload_n hx hb dL_law_1545 rfl (lv_at hl 0 rfl) ?_
  refine lv_iload_n hx hb dL_law_1546 rfl (lv_at hl 3 rfl) ?_
  refine lv_iconst (v := 1) hx hb dL_law_1547 (by decide) ?_
  refine lv_iadd hx hb dL_law_1548 ?_
  refine g_scr (k := 1) (i := i) hc hw.2.2 hX hbl hbA (by omega) (by omega) (by rw [← nI_add]; rfl) dL_law_1549 ?_
  refine lv_aload_n hx hb dL_law_1550 rfl (lv_at hl 0 rfl) ?_
  refine lv_iload_n hx hb dL_law_1551 rfl (lv_at hl 3 rfl) ?_
  refine lv_iconst (v := 2) hx hb dL_law_1552 (by decide) ?_
  refine lv_iadd hx hb dL_law_1553 ?_
  refine g_scr (k := 2) (i := i) hc hw.2.2 hX hbl hbA (by omega) (by omega) (by rw [← nI_add]; rfl) dL_law_1554 ?_
  refine g_Vi (Γ := Gc D cs base K adM σM) (Y := YC) (ci := 6) (n := 2) (k := 2) (As := [.int (xs (i + 1)), .int (xs (i + 2))]) (rest := []) rfl (by decide) vw_L_186 ⟨Nat.le_of_ble_eq_true rfl, Nat.le_of_ble_eq_true rfl, (Nat.le_trans (Nat.le_add_right cells 2) hcs.1), (Nat.le_trans (Nat.le_add_right slots 170) hcs.2)⟩ hc hw hl.1 (by omega) rfl (m_X6_taken l hM (xs (i + 1)) (xs (i + 2)) σC (hop M σC σM (xs (i + 1)) (xs (i + 2)) hM hR)) rfl rfl (Nat.le_of_ble_eq_true rfl) dL_law_1555 (fun r1 u1 H locs h hw => ?_)
  replace hw := WH_swap hw
  have hc2 := CX_swap (M := M) (adC := adC) (σC := u1) hc
  refine lv_aload_n hx hb dL_law_1558 rfl (lv_at hl 2 rfl) ?_
  refine lv_aload_n hx hb dL_law_1559 rfl (lv_at hl 0 rfl) ?_
  refine lv_iload_n hx hb dL_law_1560 rfl (lv_at hl 3 rfl) ?_
  refine lv_iconst (v := 1) hx hb dL_law_1561 (by decide) ?_
  refine lv_iadd hx hb dL_law_1562 ?_
  refine g_scr (k := 1) (i := i) hc2 hw.2.2 hX hbl hbA (by omega) (by omega) (by rw [← nI_add]; rfl) dL_law_1563 ?_
  refine lv_aload_n hx hb dL_law_1564 rfl (lv_at hl 0 rfl) ?_
  refine lv_iload_n hx hb dL_law_1565 rfl (lv_at hl 3 rfl) ?_
  refine lv_iconst (v := 2) hx hb dL_law_1566 (by decide) ?_
  refine lv_iadd hx hb dL_law_1567 ?_
  refine g_scr (k := 2) (i := i) hc2 hw.2.2 hX hbl hbA (by omega) (by omega) (by rw [← nI_add]; rfl) dL_law_1568 ?_
  refine g_Vi (Γ := Gm2 D cs base K M adC u1) (Y := YM) (ci := 7) (n := 2) (k := 3) (As := [.int (xs (i + 1)), .int (xs (i + 2))]) (rest := [.int r1]) rfl (by decide) vw_L_189 ⟨Nat.le_of_ble_eq_true rfl, Nat.le_of_ble_eq_true rfl, (Nat.le_trans (Nat.le_add_right cells 2) hcs.1), (Nat.le_trans (Nat.le_add_right slots 170) hcs.2)⟩ hc2 hw hl.1 (by decide) rfl (m_X7_taken l (Nat.le_refl 20) (xs (i + 1)) (xs (i + 2)) σM h) rfl rfl (Nat.le_of_ble_eq_true rfl) dL_law_1569 (fun r2 u2 H locs h hw => ?_)
  obtain ⟨hrr, hR2⟩ := h
  subst hrr
  replace hw := WH_swap2 hw
  refine lv_icmp_eq (tgt := 1577) hx hb dL_law_1572 (by decide) (fun _ => ?_) (fun c => absurd rfl c)
  refine W.widen (k := cells + 2) (n := slots + 170) (by omega) (by omega) ?_
  exact cont M adC u1 u2 _ _ _ hM hR2 hw hl
set_option maxHeartbeats 4000000 in
set_option maxRecDepth 20000 in
/-- one call of the law: from the switch to its step -/
theorem law_case {D : va_G} {cs : Nat → ClassId} {base : Nat} {K : (Nat → Nat) × (Nat → Nat) × Nat} {RR : Nat → St → St → Prop} {b L : Nat} {xs : Nat → Int32} {p : Program} {l : Launch} {e : Env} {s : State} {m : MethodId} {args : Array Value} {below : List Frame} {meth : Method} {c : Code} {Q : State → Prop} (hop0 : ∀ (M : Nat) (σC σM : St) (a1 a2 a3 a4 a5 : Int32) , 53 ≤ M → RR M σC σM → w_X6_cheese M (fun r u => w_X7_cheese 20 (fun r2 u2 => r = r2 ∧ RR M u u2) a1 a2 a3 a4 a5 σM) a1 a2 a3 a4 a5 σC) (hop1 : ∀ (M : Nat) (σC σM : St) (a1 a2 a3 : Int32) , 53 ≤ M → RR M σC σM → w_X6_ripen M (fun r u => w_X7_ripen 20 (fun r2 u2 => r = r2 ∧ RR M u u2) a1 a2 a3 σM) a1 a2 a3 σC) (hop2 : ∀ (M : Nat) (σC σM : St) (a1 a2 : Int32) , 53 ≤ M → RR M σC σM → w_X6_sortTold M (fun r u => w_X7_sortTold 20 (fun r2 u2 => r = r2 ∧ RR M u u2) a1 a2 σM) a1 a2 σC) (hop3 : ∀ (M : Nat) (σC σM : St) (a1 a2 : Int32) , 53 ≤ M → RR M σC σM → w_X6_set M (fun r u => w_X7_set 20 (fun r2 u2 => r = r2 ∧ RR M u u2) a1 a2 σM) a1 a2 σC) (hop4 : ∀ (M : Nat) (σC σM : St) (a1 : Int32) , 53 ≤ M → RR M σC σM → w_X6_count M (fun r u => w_X7_count 20 (fun r2 u2 => r = r2 ∧ RR M u u2) a1 σM) a1 σC) (hop5 : ∀ (M : Nat) (σC σM : St) (a1 a2 a3 a4 a5 a6 : Int32) , 53 ≤ M → RR M σC σM → w_X6_feed M (fun r u => w_X7_feed 20 (fun r2 u2 => r = r2 ∧ RR M u u2) a1 a2 a3 a4 a5 a6 σM) a1 a2 a3 a4 a5 a6 σC) (hop6 : ∀ (M : Nat) (σC σM : St), 53 ≤ M → RR M σC σM → w_X6_text M (fun r u M1 => w_X7_text 20 (fun r2 u2 => r = r2 ∧ RR M1 u u2) σM) σC) (hop7 : ∀ (M : Nat) (σC σM : St) (a1 : Int32) , 53 ≤ M → RR M σC σM → w_X6_force M (fun r u => w_X7_force 20 (fun r2 u2 => r = r2 ∧ RR M u u2) a1 σM) a1 σC) (hop8 : ∀ (M : Nat) (σC σM : St) (a1 a2 a3 : Int32) , 53 ≤ M → RR M σC σM → w_X6_act M (fun r u => w_X7_act 20 (fun r2 u2 => r = r2 ∧ RR M u u2) a1 a2 a3 σM) a1 a2 a3 σC) (hop9 : ∀ (M : Nat) (σC σM : St) , 53 ≤ M → RR M σC σM → w_X6_forget M (fun r u => w_X7_forget 20 (fun r2 u2 => r = r2 ∧ RR M u u2)  σM)  σC) (hop10 : ∀ (M : Nat) (σC σM : St) (a1 a2 : Int32) , 53 ≤ M → RR M σC σM → w_X6_actTold M (fun r u => w_X7_actTold 20 (fun r2 u2 => r = r2 ∧ RR M u u2) a1 a2 σM) a1 a2 σC) (hop11 : ∀ (M : Nat) (σC σM : St) (a1 a2 : Int32) , 53 ≤ M → RR M σC σM → w_X6_pot M (fun r u => w_X7_pot 20 (fun r2 u2 => r = r2 ∧ RR M u u2) a1 a2 σM) a1 a2 σC) (hop12 : ∀ (M : Nat) (σC σM : St) (a1 : Int32) , 53 ≤ M → RR M σC σM → w_X6_splits M (fun r u => w_X7_splits 20 (fun r2 u2 => r = r2 ∧ RR M u u2) a1 σM) a1 σC) (hop13 : ∀ (M : Nat) (σC σM : St) (a1 a2 : Int32) , 53 ≤ M → RR M σC σM → w_X6_hour M (fun r u => w_X7_hour 20 (fun r2 u2 => r = r2 ∧ RR M u u2) a1 a2 σM) a1 a2 σC) (hop14 : ∀ (M : Nat) (σC σM : St) , 53 ≤ M → RR M σC σM → w_X6_flames M (fun r u => w_X7_flames 20 (fun r2 u2 => r = r2 ∧ RR M u u2)  σM)  σC) (hop15 : ∀ (M : Nat) (σC σM : St) , 53 ≤ M → RR M σC σM → w_X6_sours M (fun r u => w_X7_sours 20 (fun r2 u2 => r = r2 ∧ RR M u u2)  σM)  σC) (hop16 : ∀ (M : Nat) (σC σM : St) , 53 ≤ M → RR M σC σM → w_X6_region M (fun r u => w_X7_region 20 (fun r2 u2 => r = r2 ∧ RR M u u2)  σM)  σC) (hop17 : ∀ (M : Nat) (σC σM : St) , 53 ≤ M → RR M σC σM → w_X6_most M (fun r u => w_X7_most 20 (fun r2 u2 => r = r2 ∧ RR M u u2)  σM)  σC) (hop18 : ∀ (M : Nat) (σC σM : St) (a1 a2 : Int32) , 53 ≤ M → RR M σC σM → w_X6_odds M (fun r u => w_X7_odds 20 (fun r2 u2 => r = r2 ∧ RR M u u2) a1 a2 σM) a1 a2 σC) (hop19 : ∀ (M : Nat) (σC σM : St) (a1 a2 a3 : Int32) , 53 ≤ M → RR M σC σM → w_X6_save M (fun r u => w_X7_save 20 (fun r2 u2 => r = r2 ∧ RR M u u2) a1 a2 a3 σM) a1 a2 a3 σC) (hop20 : ∀ (M : Nat) (σC σM : St) (a1 : Int32) , 53 ≤ M → RR M σC σM → w_X6_why M (fun r u => w_X7_why 20 (fun r2 u2 => r = r2 ∧ RR M u u2) a1 σM) a1 σC) (hop21 : ∀ (M : Nat) (σC σM : St) (a1 : Int32) , 53 ≤ M → RR M σC σM → w_X6_order M (fun r u => w_X7_order 20 (fun r2 u2 => r = r2 ∧ RR M u u2) a1 σM) a1 σC) (hop22 : ∀ (M : Nat) (σC σM : St) (a1 a2 : Int32) , 53 ≤ M → RR M σC σM → w_X6_strokes M (fun r u => w_X7_strokes 20 (fun r2 u2 => r = r2 ∧ RR M u u2) a1 a2 σM) a1 a2 σC) (hop23 : ∀ (M : Nat) (σC σM : St) (a1 a2 a3 : Int32) , 53 ≤ M → RR M σC σM → w_X6_mix M (fun r u => w_X7_mix 20 (fun r2 u2 => r = r2 ∧ RR M u u2) a1 a2 a3 σM) a1 a2 a3 σC) (hop24 : ∀ (M : Nat) (σC σM : St) (a1 a2 : Int32) , 53 ≤ M → RR M σC σM → w_X6_week M (fun r u => w_X7_week 20 (fun r2 u2 => r = r2 ∧ RR M u u2) a1 a2 σM) a1 a2 σC) (hop25 : ∀ (M : Nat) (σC σM : St) (a1 a2 : Int32) , 53 ≤ M → RR M σC σM → w_X6_pace M (fun r u => w_X7_pace 20 (fun r2 u2 => r = r2 ∧ RR M u u2) a1 a2 σM) a1 a2 σC) (hop26 : ∀ (M : Nat) (σC σM : St) (a1 a2 a3 : Int32) , 53 ≤ M → RR M σC σM → w_X6_table M (fun r u => w_X7_table 20 (fun r2 u2 => r = r2 ∧ RR M u u2) a1 a2 a3 σM) a1 a2 a3 σC) (hop27 : ∀ (M : Nat) (σC σM : St) (a1 a2 : Int32) , 53 ≤ M → RR M σC σM → w_X6_dips M (fun r u => w_X7_dips 20 (fun r2 u2 => r = r2 ∧ RR M u u2) a1 a2 σM) a1 a2 σC) (hop28 : ∀ (M : Nat) (σC σM : St) (a1 a2 : Int32) , 53 ≤ M → RR M σC σM → w_X6_wick M (fun r u => w_X7_wick 20 (fun r2 u2 => r = r2 ∧ RR M u u2) a1 a2 σM) a1 a2 σC) (hop29 : ∀ (M : Nat) (σC σM : St) (a1 : Int32) , 53 ≤ M → RR M σC σM → w_X6_judge M (fun r u => w_X7_judge 20 (fun r2 u2 => r = r2 ∧ RR M u u2) a1 σM) a1 σC) (hop30 : ∀ (M : Nat) (σC σM : St) (a1 : Int32) , 53 ≤ M → RR M σC σM → w_X6_film M (fun r u => w_X7_film 20 (fun r2 u2 => r = r2 ∧ RR M u u2) a1 σM) a1 σC) (hop31 : ∀ (M : Nat) (σC σM : St) (a1 a2 : Int32) , 53 ≤ M → RR M σC σM → w_X6_ages M (fun r u => w_X7_ages 20 (fun r2 u2 => r = r2 ∧ RR M u u2) a1 a2 σM) a1 a2 σC) (hop32 : ∀ (M : Nat) (σC σM : St) (a1 : Int32) , 53 ≤ M → RR M σC σM → w_X6_which M (fun r u => w_X7_which 20 (fun r2 u2 => r = r2 ∧ RR M u u2) a1 σM) a1 σC) (hop33 : ∀ (M : Nat) (σC σM : St) (a1 a2 a3 : Int32) , 53 ≤ M → RR M σC σM → w_X6_drawn M (fun r u => w_X7_drawn 20 (fun r2 u2 => r = r2 ∧ RR M u u2) a1 a2 a3 σM) a1 a2 a3 σC) (hop34 : ∀ (M : Nat) (σC σM : St) (a1 a2 a3 : Int32) , 53 ≤ M → RR M σC σM → w_X6_chance M (fun r u => w_X7_chance 20 (fun r2 u2 => r = r2 ∧ RR M u u2) a1 a2 a3 σM) a1 a2 a3 σC) (hop35 : ∀ (M : Nat) (σC σM : St) , 53 ≤ M → RR M σC σM → w_X6_image M (fun r u => w_X7_image 20 (fun r2 u2 => r = r2 ∧ RR M u u2)  σM)  σC) (hop36 : ∀ (M : Nat) (σC σM : St) , 53 ≤ M → RR M σC σM → w_X6_back M (fun r u => w_X7_back 20 (fun r2 u2 => r = r2 ∧ RR M u u2)  σM)  σC) (hop37 : ∀ (M : Nat) (σC σM : St) (a1 a2 a3 : Int32) , 53 ≤ M → RR M σC σM → w_X6_sheet M (fun r u => w_X7_sheet 20 (fun r2 u2 => r = r2 ∧ RR M u u2) a1 a2 a3 σM) a1 a2 a3 σC) (hop38 : ∀ (M : Nat) (σC σM : St) (a1 a2 a3 : Int32) , 53 ≤ M → RR M σC σM → w_X6_cell M (fun r u => w_X7_cell 20 (fun r2 u2 => r = r2 ∧ RR M u u2) a1 a2 a3 σM) a1 a2 a3 σC) (hop39 : ∀ (M : Nat) (σC σM : St) (a1 a2 a3 a4 a5 : Int32) , 53 ≤ M → RR M σC σM → w_X6_copy M (fun r u => w_X7_copy 20 (fun r2 u2 => r = r2 ∧ RR M u u2) a1 a2 a3 a4 a5 σM) a1 a2 a3 a4 a5 σC) (hop40 : ∀ (M : Nat) (σC σM : St) (a1 a2 a3 a4 : Int32) , 53 ≤ M → RR M σC σM → w_X6_actsBy M (fun r u => w_X7_actsBy 20 (fun r2 u2 => r = r2 ∧ RR M u u2) a1 a2 a3 a4 σM) a1 a2 a3 a4 σC) (hop41 : ∀ (M : Nat) (σC σM : St) (a1 a2 : Int32) , 53 ≤ M → RR M σC σM → w_X6_taken M (fun r u => w_X7_taken 20 (fun r2 u2 => r = r2 ∧ RR M u u2) a1 a2 σM) a1 a2 σC) (M : Nat) (adC adM : Nat → Nat) (σC σM : St) (H : Heap) (locs : List Loc) (ls : Array Slot) (cells slots i : Nat) (hM : 53 ≤ M) (hR : RR M σC σM) (hc : CX (Gc D cs base K adM σM) p s m args meth c cL_law RL 4) (hw : WH (Gc D cs base K adM σM) YC M adC σC s H locs) (hX : va_X b L xs s s.heap) (hbl : b < s.heap.size) (hbA : b < base) (hi : i + 7 ≤ L) (hL : L ≤ 3584) (hl : lv_has ls 4 [(0, .ref b), (1, .ref (adC 0)), (2, .ref (adM 0)), (3, .int (nI i))]) (hcs : cells + 2 ≤ room_1.cells ∧ slots + 170 ≤ room_1.slots)
    (cont : ∀ (M' : Nat) (adC' : Nat → Nat) (σC' σM' : St) (H : Heap) (locs : List Loc) (ls : Array Slot), 53 ≤ M' → RR M' σC' σM' → WH (Gc D cs base K adM σM') YC M' adC' σC' s H locs → lv_has ls 4 [(0, .ref b), (1, .ref (adC' 0)), (2, .ref (adM 0)), (3, .int (nI i))] → W p l e room_1 s m args below meth c H locs (cells + 2) (slots + 170) Q (F0 m 1577 ls [])) :
    W p l e room_1 s m args below meth c H locs cells slots Q (F0 m 33 ls [.int (xs i &&& 63)]) := by
  have hx := hc.1
  have hb := hc.2.1
  by_cases c0 : xs i &&& 63 = 0
  · refine lv_tableIn (off := 183) (tgt := 216) hx hb dL_law_33 (by rw [c0]; decide) (by rw [c0]; decide) (by rw [c0]; rfl) (by decide) ?_
    exact lc_0 hop0 M adC adM σC σM H locs ls cells slots i hM hR hc hw hX hbl hbA hi hL hl hcs cont
  by_cases c1 : xs i &&& 63 = 1
  · refine lv_tableIn (off := 246) (tgt := 279) hx hb dL_law_33 (by rw [c1]; decide) (by rw [c1]; decide) (by rw [c1]; rfl) (by decide) ?_
    exact lc_1 hop1 M adC adM σC σM H locs ls cells slots i hM hR hc hw hX hbl hbA hi hL hl hcs cont
  by_cases c2 : xs i &&& 63 = 2
  · refine lv_tableIn (off := 289) (tgt := 322) hx hb dL_law_33 (by rw [c2]; decide) (by rw [c2]; decide) (by rw [c2]; rfl) (by decide) ?_
    exact lc_2 hop2 M adC adM σC σM H locs ls cells slots i hM hR hc hw hX hbl hbA hi hL hl hcs cont
  by_cases c3 : xs i &&& 63 = 3
  · refine lv_tableIn (off := 322) (tgt := 355) hx hb dL_law_33 (by rw [c3]; decide) (by rw [c3]; decide) (by rw [c3]; rfl) (by decide) ?_
    exact lc_3 hop3 M adC adM σC σM H locs ls cells slots i hM hR hc hw hX hbl hbA hi hL hl hcs cont
  by_cases c4 : xs i &&& 63 = 4
  · refine lv_tableIn (off := 355) (tgt := 388) hx hb dL_law_33 (by rw [c4]; decide) (by rw [c4]; decide) (by rw [c4]; rfl) (by decide) ?_
    exact lc_4 hop4 M adC adM σC σM H locs ls cells slots i hM hR hc hw hX hbl hbA hi hL hl hcs cont
  by_cases c5 : xs i &&& 63 = 5
  · refine lv_tableIn (off := 378) (tgt := 411) hx hb dL_law_33 (by rw [c5]; decide) (by rw [c5]; decide) (by rw [c5]; rfl) (by decide) ?_
    exact lc_5 hop5 M adC adM σC σM H locs ls cells slots i hM hR hc hw hX hbl hbA hi hL hl hcs cont
  by_cases c6 : xs i &&& 63 = 6
  · refine lv_tableIn (off := 453) (tgt := 486) hx hb dL_law_33 (by rw [c6]; decide) (by rw [c6]; decide) (by rw [c6]; rfl) (by decide) ?_
    exact lc_6 hop6 M adC adM σC σM H locs ls cells slots i hM hR hc hw hX hbl hbA hi hL hl hcs cont
  by_cases c7 : xs i &&& 63 = 7
  · refine lv_tableIn (off := 466) (tgt := 499) hx hb dL_law_33 (by rw [c7]; decide) (by rw [c7]; decide) (by rw [c7]; rfl) (by decide) ?_
    exact lc_7 hop7 M adC adM σC σM H locs ls cells slots i hM hR hc hw hX hbl hbA hi hL hl hcs cont
  by_cases c8 : xs i &&& 63 = 8
  · refine lv_tableIn (off := 489) (tgt := 522) hx hb dL_law_33 (by rw [c8]; decide) (by rw [c8]; decide) (by rw [c8]; rfl) (by decide) ?_
    exact lc_8 hop8 M adC adM σC σM H locs ls cells slots i hM hR hc hw hX hbl hbA hi hL hl hcs cont
  by_cases c9 : xs i &&& 63 = 9
  · refine lv_tableIn (off := 532) (tgt := 565) hx hb dL_law_33 (by rw [c9]; decide) (by rw [c9]; decide) (by rw [c9]; rfl) (by decide) ?_
    exact lc_9 hop9 M adC adM σC σM H locs ls cells slots i hM hR hc hw hX hbl hbA hi hL hl hcs cont
  by_cases c10 : xs i &&& 63 = 10
  · refine lv_tableIn (off := 545) (tgt := 578) hx hb dL_law_33 (by rw [c10]; decide) (by rw [c10]; decide) (by rw [c10]; rfl) (by decide) ?_
    exact lc_10 hop10 M adC adM σC σM H locs ls cells slots i hM hR hc hw hX hbl hbA hi hL hl hcs cont
  by_cases c11 : xs i &&& 63 = 11
  · refine lv_tableIn (off := 578) (tgt := 611) hx hb dL_law_33 (by rw [c11]; decide) (by rw [c11]; decide) (by rw [c11]; rfl) (by decide) ?_
    exact lc_11 hop11 M adC adM σC σM H locs ls cells slots i hM hR hc hw hX hbl hbA hi hL hl hcs cont
  by_cases c12 : xs i &&& 63 = 12
  · refine lv_tableIn (off := 611) (tgt := 644) hx hb dL_law_33 (by rw [c12]; decide) (by rw [c12]; decide) (by rw [c12]; rfl) (by decide) ?_
    exact lc_12 hop12 M adC adM σC σM H locs ls cells slots i hM hR hc hw hX hbl hbA hi hL hl hcs cont
  by_cases c13 : xs i &&& 63 = 13
  · refine lv_tableIn (off := 634) (tgt := 667) hx hb dL_law_33 (by rw [c13]; decide) (by rw [c13]; decide) (by rw [c13]; rfl) (by decide) ?_
    exact lc_13 hop13 M adC adM σC σM H locs ls cells slots i hM hR hc hw hX hbl hbA hi hL hl hcs cont
  by_cases c14 : xs i &&& 63 = 14
  · refine lv_tableIn (off := 667) (tgt := 700) hx hb dL_law_33 (by rw [c14]; decide) (by rw [c14]; decide) (by rw [c14]; rfl) (by decide) ?_
    exact lc_14 hop14 M adC adM σC σM H locs ls cells slots i hM hR hc hw hX hbl hbA hi hL hl hcs cont
  by_cases c15 : xs i &&& 63 = 15
  · refine lv_tableIn (off := 680) (tgt := 713) hx hb dL_law_33 (by rw [c15]; decide) (by rw [c15]; decide) (by rw [c15]; rfl) (by decide) ?_
    exact lc_15 hop15 M adC adM σC σM H locs ls cells slots i hM hR hc hw hX hbl hbA hi hL hl hcs cont
  by_cases c16 : xs i &&& 63 = 16
  · refine lv_tableIn (off := 693) (tgt := 726) hx hb dL_law_33 (by rw [c16]; decide) (by rw [c16]; decide) (by rw [c16]; rfl) (by decide) ?_
    exact lc_16 hop16 M adC adM σC σM H locs ls cells slots i hM hR hc hw hX hbl hbA hi hL hl hcs cont
  by_cases c17 : xs i &&& 63 = 17
  · refine lv_tableIn (off := 706) (tgt := 739) hx hb dL_law_33 (by rw [c17]; decide) (by rw [c17]; decide) (by rw [c17]; rfl) (by decide) ?_
    exact lc_17 hop17 M adC adM σC σM H locs ls cells slots i hM hR hc hw hX hbl hbA hi hL hl hcs cont
  by_cases c18 : xs i &&& 63 = 18
  · refine lv_tableIn (off := 719) (tgt := 752) hx hb dL_law_33 (by rw [c18]; decide) (by rw [c18]; decide) (by rw [c18]; rfl) (by decide) ?_
    exact lc_18 hop18 M adC adM σC σM H locs ls cells slots i hM hR hc hw hX hbl hbA hi hL hl hcs cont
  by_cases c19 : xs i &&& 63 = 19
  · refine lv_tableIn (off := 753) (tgt := 786) hx hb dL_law_33 (by rw [c19]; decide) (by rw [c19]; decide) (by rw [c19]; rfl) (by decide) ?_
    exact lc_19 hop19 M adC adM σC σM H locs ls cells slots i hM hR hc hw hX hbl hbA hi hL hl hcs cont
  by_cases c20 : xs i &&& 63 = 20
  · refine lv_tableIn (off := 796) (tgt := 829) hx hb dL_law_33 (by rw [c20]; decide) (by rw [c20]; decide) (by rw [c20]; rfl) (by decide) ?_
    exact lc_20 hop20 M adC adM σC σM H locs ls cells slots i hM hR hc hw hX hbl hbA hi hL hl hcs cont
  by_cases c21 : xs i &&& 63 = 21
  · refine lv_tableIn (off := 819) (tgt := 852) hx hb dL_law_33 (by rw [c21]; decide) (by rw [c21]; decide) (by rw [c21]; rfl) (by decide) ?_
    exact lc_21 hop21 M adC adM σC σM H locs ls cells slots i hM hR hc hw hX hbl hbA hi hL hl hcs cont
  by_cases c22 : xs i &&& 63 = 22
  · refine lv_tableIn (off := 842) (tgt := 875) hx hb dL_law_33 (by rw [c22]; decide) (by rw [c22]; decide) (by rw [c22]; rfl) (by decide) ?_
    exact lc_22 hop22 M adC adM σC σM H locs ls cells slots i hM hR hc hw hX hbl hbA hi hL hl hcs cont
  by_cases c23 : xs i &&& 63 = 23
  · refine lv_tableIn (off := 875) (tgt := 908) hx hb dL_law_33 (by rw [c23]; decide) (by rw [c23]; decide) (by rw [c23]; rfl) (by decide) ?_
    exact lc_23 hop23 M adC adM σC σM H locs ls cells slots i hM hR hc hw hX hbl hbA hi hL hl hcs cont
  by_cases c24 : xs i &&& 63 = 24
  · refine lv_tableIn (off := 918) (tgt := 951) hx hb dL_law_33 (by rw [c24]; decide) (by rw [c24]; decide) (by rw [c24]; rfl) (by decide) ?_
    exact lc_24 hop24 M adC adM σC σM H locs ls cells slots i hM hR hc hw hX hbl hbA hi hL hl hcs cont
  by_cases c25 : xs i &&& 63 = 25
  · refine lv_tableIn (off := 951) (tgt := 984) hx hb dL_law_33 (by rw [c25]; decide) (by rw [c25]; decide) (by rw [c25]; rfl) (by decide) ?_
    exact lc_25 hop25 M adC adM σC σM H locs ls cells slots i hM hR hc hw hX hbl hbA hi hL hl hcs cont
  by_cases c26 : xs i &&& 63 = 26
  · refine lv_tableIn (off := 984) (tgt := 1017) hx hb dL_law_33 (by rw [c26]; decide) (by rw [c26]; decide) (by rw [c26]; rfl) (by decide) ?_
    exact lc_26 hop26 M adC adM σC σM H locs ls cells slots i hM hR hc hw hX hbl hbA hi hL hl hcs cont
  by_cases c27 : xs i &&& 63 = 27
  · refine lv_tableIn (off := 1027) (tgt := 1060) hx hb dL_law_33 (by rw [c27]; decide) (by rw [c27]; decide) (by rw [c27]; rfl) (by decide) ?_
    exact lc_27 hop27 M adC adM σC σM H locs ls cells slots i hM hR hc hw hX hbl hbA hi hL hl hcs cont
  by_cases c28 : xs i &&& 63 = 28
  · refine lv_tableIn (off := 1060) (tgt := 1093) hx hb dL_law_33 (by rw [c28]; decide) (by rw [c28]; decide) (by rw [c28]; rfl) (by decide) ?_
    exact lc_28 hop28 M adC adM σC σM H locs ls cells slots i hM hR hc hw hX hbl hbA hi hL hl hcs cont
  by_cases c29 : xs i &&& 63 = 29
  · refine lv_tableIn (off := 1093) (tgt := 1126) hx hb dL_law_33 (by rw [c29]; decide) (by rw [c29]; decide) (by rw [c29]; rfl) (by decide) ?_
    exact lc_29 hop29 M adC adM σC σM H locs ls cells slots i hM hR hc hw hX hbl hbA hi hL hl hcs cont
  by_cases c30 : xs i &&& 63 = 30
  · refine lv_tableIn (off := 1116) (tgt := 1149) hx hb dL_law_33 (by rw [c30]; decide) (by rw [c30]; decide) (by rw [c30]; rfl) (by decide) ?_
    exact lc_30 hop30 M adC adM σC σM H locs ls cells slots i hM hR hc hw hX hbl hbA hi hL hl hcs cont
  by_cases c31 : xs i &&& 63 = 31
  · refine lv_tableIn (off := 1139) (tgt := 1172) hx hb dL_law_33 (by rw [c31]; decide) (by rw [c31]; decide) (by rw [c31]; rfl) (by decide) ?_
    exact lc_31 hop31 M adC adM σC σM H locs ls cells slots i hM hR hc hw hX hbl hbA hi hL hl hcs cont
  by_cases c32 : xs i &&& 63 = 32
  · refine lv_tableIn (off := 1173) (tgt := 1206) hx hb dL_law_33 (by rw [c32]; decide) (by rw [c32]; decide) (by rw [c32]; rfl) (by decide) ?_
    exact lc_32 hop32 M adC adM σC σM H locs ls cells slots i hM hR hc hw hX hbl hbA hi hL hl hcs cont
  by_cases c33 : xs i &&& 63 = 33
  · refine lv_tableIn (off := 1196) (tgt := 1229) hx hb dL_law_33 (by rw [c33]; decide) (by rw [c33]; decide) (by rw [c33]; rfl) (by decide) ?_
    exact lc_33 hop33 M adC adM σC σM H locs ls cells slots i hM hR hc hw hX hbl hbA hi hL hl hcs cont
  by_cases c34 : xs i &&& 63 = 34
  · refine lv_tableIn (off := 1239) (tgt := 1272) hx hb dL_law_33 (by rw [c34]; decide) (by rw [c34]; decide) (by rw [c34]; rfl) (by decide) ?_
    exact lc_34 hop34 M adC adM σC σM H locs ls cells slots i hM hR hc hw hX hbl hbA hi hL hl hcs cont
  by_cases c35 : xs i &&& 63 = 35
  · refine lv_tableIn (off := 1283) (tgt := 1316) hx hb dL_law_33 (by rw [c35]; decide) (by rw [c35]; decide) (by rw [c35]; rfl) (by decide) ?_
    exact lc_35 hop35 M adC adM σC σM H locs ls cells slots i hM hR hc hw hX hbl hbA hi hL hl hcs cont
  by_cases c36 : xs i &&& 63 = 36
  · refine lv_tableIn (off := 1296) (tgt := 1329) hx hb dL_law_33 (by rw [c36]; decide) (by rw [c36]; decide) (by rw [c36]; rfl) (by decide) ?_
    exact lc_36 hop36 M adC adM σC σM H locs ls cells slots i hM hR hc hw hX hbl hbA hi hL hl hcs cont
  by_cases c37 : xs i &&& 63 = 37
  · refine lv_tableIn (off := 1309) (tgt := 1342) hx hb dL_law_33 (by rw [c37]; decide) (by rw [c37]; decide) (by rw [c37]; rfl) (by decide) ?_
    exact lc_37 hop37 M adC adM σC σM H locs ls cells slots i hM hR hc hw hX hbl hbA hi hL hl hcs cont
  by_cases c38 : xs i &&& 63 = 38
  · refine lv_tableIn (off := 1352) (tgt := 1385) hx hb dL_law_33 (by rw [c38]; decide) (by rw [c38]; decide) (by rw [c38]; rfl) (by decide) ?_
    exact lc_38 hop38 M adC adM σC σM H locs ls cells slots i hM hR hc hw hX hbl hbA hi hL hl hcs cont
  by_cases c39 : xs i &&& 63 = 39
  · refine lv_tableIn (off := 1395) (tgt := 1428) hx hb dL_law_33 (by rw [c39]; decide) (by rw [c39]; decide) (by rw [c39]; rfl) (by decide) ?_
    exact lc_39 hop39 M adC adM σC σM H locs ls cells slots i hM hR hc hw hX hbl hbA hi hL hl hcs cont
  by_cases c40 : xs i &&& 63 = 40
  · refine lv_tableIn (off := 1458) (tgt := 1491) hx hb dL_law_33 (by rw [c40]; decide) (by rw [c40]; decide) (by rw [c40]; rfl) (by decide) ?_
    exact lc_40 hop40 M adC adM σC σM H locs ls cells slots i hM hR hc hw hX hbl hbA hi hL hl hcs cont
  by_cases c41 : xs i &&& 63 = 41
  · refine lv_tableIn (off := 1511) (tgt := 1544) hx hb dL_law_33 (by rw [c41]; decide) (by rw [c41]; decide) (by rw [c41]; rfl) (by decide) ?_
    exact lc_41 hop41 M adC adM σC σM H locs ls cells slots i hM hR hc hw hX hbl hbA hi hL hl hcs cont
  refine lv_tableOut (tgt := 1577) hx hb dL_law_33 (by have z0 := lv_neT (a := 0) c0 (by decide); have z1 := lv_neT (a := 1) c1 (by decide); have z2 := lv_neT (a := 2) c2 (by decide); have z3 := lv_neT (a := 3) c3 (by decide); have z4 := lv_neT (a := 4) c4 (by decide); have z5 := lv_neT (a := 5) c5 (by decide); have z6 := lv_neT (a := 6) c6 (by decide); have z7 := lv_neT (a := 7) c7 (by decide); have z8 := lv_neT (a := 8) c8 (by decide); have z9 := lv_neT (a := 9) c9 (by decide); have z10 := lv_neT (a := 10) c10 (by decide); have z11 := lv_neT (a := 11) c11 (by decide); have z12 := lv_neT (a := 12) c12 (by decide); have z13 := lv_neT (a := 13) c13 (by decide); have z14 := lv_neT (a := 14) c14 (by decide); have z15 := lv_neT (a := 15) c15 (by decide); have z16 := lv_neT (a := 16) c16 (by decide); have z17 := lv_neT (a := 17) c17 (by decide); have z18 := lv_neT (a := 18) c18 (by decide); have z19 := lv_neT (a := 19) c19 (by decide); have z20 := lv_neT (a := 20) c20 (by decide); have z21 := lv_neT (a := 21) c21 (by decide); have z22 := lv_neT (a := 22) c22 (by decide); have z23 := lv_neT (a := 23) c23 (by decide); have z24 := lv_neT (a := 24) c24 (by decide); have z25 := lv_neT (a := 25) c25 (by decide); have z26 := lv_neT (a := 26) c26 (by decide); have z27 := lv_neT (a := 27) c27 (by decide); have z28 := lv_neT (a := 28) c28 (by decide); have z29 := lv_neT (a := 29) c29 (by decide); have z30 := lv_neT (a := 30) c30 (by decide); have z31 := lv_neT (a := 31) c31 (by decide); have z32 := lv_neT (a := 32) c32 (by decide); have z33 := lv_neT (a := 33) c33 (by decide); have z34 := lv_neT (a := 34) c34 (by decide); have z35 := lv_neT (a := 35) c35 (by decide); have z36 := lv_neT (a := 36) c36 (by decide); have z37 := lv_neT (a := 37) c37 (by decide); have z38 := lv_neT (a := 38) c38 (by decide); have z39 := lv_neT (a := 39) c39 (by decide); have z40 := lv_neT (a := 40) c40 (by decide); have z41 := lv_neT (a := 41) c41 (by decide); omega) (by decide) ?_
  refine W.widen (k := cells + 2) (n := slots + 170) (by omega) (by omega) ?_
  exact cont M adC σC σM H locs ls hM hR hw hl
set_option maxHeartbeats 4000000 in
set_option maxRecDepth 20000 in
/-- the law's loop: k calls done -/
theorem law_loop {D : va_G} {cs : Nat → ClassId} {base : Nat} {K : (Nat → Nat) × (Nat → Nat) × Nat} {RR : Nat → St → St → Prop} {b L : Nat} {xs : Nat → Int32} {p : Program} {l : Launch} {e : Env} {s : State} {m : MethodId} {args : Array Value} {below : List Frame} {meth : Method} {c : Code} {Q : State → Prop} (hop0 : ∀ (M : Nat) (σC σM : St) (a1 a2 a3 a4 a5 : Int32) , 53 ≤ M → RR M σC σM → w_X6_cheese M (fun r u => w_X7_cheese 20 (fun r2 u2 => r = r2 ∧ RR M u u2) a1 a2 a3 a4 a5 σM) a1 a2 a3 a4 a5 σC) (hop1 : ∀ (M : Nat) (σC σM : St) (a1 a2 a3 : Int32) , 53 ≤ M → RR M σC σM → w_X6_ripen M (fun r u => w_X7_ripen 20 (fun r2 u2 => r = r2 ∧ RR M u u2) a1 a2 a3 σM) a1 a2 a3 σC) (hop2 : ∀ (M : Nat) (σC σM : St) (a1 a2 : Int32) , 53 ≤ M → RR M σC σM → w_X6_sortTold M (fun r u => w_X7_sortTold 20 (fun r2 u2 => r = r2 ∧ RR M u u2) a1 a2 σM) a1 a2 σC) (hop3 : ∀ (M : Nat) (σC σM : St) (a1 a2 : Int32) , 53 ≤ M → RR M σC σM → w_X6_set M (fun r u => w_X7_set 20 (fun r2 u2 => r = r2 ∧ RR M u u2) a1 a2 σM) a1 a2 σC) (hop4 : ∀ (M : Nat) (σC σM : St) (a1 : Int32) , 53 ≤ M → RR M σC σM → w_X6_count M (fun r u => w_X7_count 20 (fun r2 u2 => r = r2 ∧ RR M u u2) a1 σM) a1 σC) (hop5 : ∀ (M : Nat) (σC σM : St) (a1 a2 a3 a4 a5 a6 : Int32) , 53 ≤ M → RR M σC σM → w_X6_feed M (fun r u => w_X7_feed 20 (fun r2 u2 => r = r2 ∧ RR M u u2) a1 a2 a3 a4 a5 a6 σM) a1 a2 a3 a4 a5 a6 σC) (hop6 : ∀ (M : Nat) (σC σM : St), 53 ≤ M → RR M σC σM → w_X6_text M (fun r u M1 => w_X7_text 20 (fun r2 u2 => r = r2 ∧ RR M1 u u2) σM) σC) (hop7 : ∀ (M : Nat) (σC σM : St) (a1 : Int32) , 53 ≤ M → RR M σC σM → w_X6_force M (fun r u => w_X7_force 20 (fun r2 u2 => r = r2 ∧ RR M u u2) a1 σM) a1 σC) (hop8 : ∀ (M : Nat) (σC σM : St) (a1 a2 a3 : Int32) , 53 ≤ M → RR M σC σM → w_X6_act M (fun r u => w_X7_act 20 (fun r2 u2 => r = r2 ∧ RR M u u2) a1 a2 a3 σM) a1 a2 a3 σC) (hop9 : ∀ (M : Nat) (σC σM : St) , 53 ≤ M → RR M σC σM → w_X6_forget M (fun r u => w_X7_forget 20 (fun r2 u2 => r = r2 ∧ RR M u u2)  σM)  σC) (hop10 : ∀ (M : Nat) (σC σM : St) (a1 a2 : Int32) , 53 ≤ M → RR M σC σM → w_X6_actTold M (fun r u => w_X7_actTold 20 (fun r2 u2 => r = r2 ∧ RR M u u2) a1 a2 σM) a1 a2 σC) (hop11 : ∀ (M : Nat) (σC σM : St) (a1 a2 : Int32) , 53 ≤ M → RR M σC σM → w_X6_pot M (fun r u => w_X7_pot 20 (fun r2 u2 => r = r2 ∧ RR M u u2) a1 a2 σM) a1 a2 σC) (hop12 : ∀ (M : Nat) (σC σM : St) (a1 : Int32) , 53 ≤ M → RR M σC σM → w_X6_splits M (fun r u => w_X7_splits 20 (fun r2 u2 => r = r2 ∧ RR M u u2) a1 σM) a1 σC) (hop13 : ∀ (M : Nat) (σC σM : St) (a1 a2 : Int32) , 53 ≤ M → RR M σC σM → w_X6_hour M (fun r u => w_X7_hour 20 (fun r2 u2 => r = r2 ∧ RR M u u2) a1 a2 σM) a1 a2 σC) (hop14 : ∀ (M : Nat) (σC σM : St) , 53 ≤ M → RR M σC σM → w_X6_flames M (fun r u => w_X7_flames 20 (fun r2 u2 => r = r2 ∧ RR M u u2)  σM)  σC) (hop15 : ∀ (M : Nat) (σC σM : St) , 53 ≤ M → RR M σC σM → w_X6_sours M (fun r u => w_X7_sours 20 (fun r2 u2 => r = r2 ∧ RR M u u2)  σM)  σC) (hop16 : ∀ (M : Nat) (σC σM : St) , 53 ≤ M → RR M σC σM → w_X6_region M (fun r u => w_X7_region 20 (fun r2 u2 => r = r2 ∧ RR M u u2)  σM)  σC) (hop17 : ∀ (M : Nat) (σC σM : St) , 53 ≤ M → RR M σC σM → w_X6_most M (fun r u => w_X7_most 20 (fun r2 u2 => r = r2 ∧ RR M u u2)  σM)  σC) (hop18 : ∀ (M : Nat) (σC σM : St) (a1 a2 : Int32) , 53 ≤ M → RR M σC σM → w_X6_odds M (fun r u => w_X7_odds 20 (fun r2 u2 => r = r2 ∧ RR M u u2) a1 a2 σM) a1 a2 σC) (hop19 : ∀ (M : Nat) (σC σM : St) (a1 a2 a3 : Int32) , 53 ≤ M → RR M σC σM → w_X6_save M (fun r u => w_X7_save 20 (fun r2 u2 => r = r2 ∧ RR M u u2) a1 a2 a3 σM) a1 a2 a3 σC) (hop20 : ∀ (M : Nat) (σC σM : St) (a1 : Int32) , 53 ≤ M → RR M σC σM → w_X6_why M (fun r u => w_X7_why 20 (fun r2 u2 => r = r2 ∧ RR M u u2) a1 σM) a1 σC) (hop21 : ∀ (M : Nat) (σC σM : St) (a1 : Int32) , 53 ≤ M → RR M σC σM → w_X6_order M (fun r u => w_X7_order 20 (fun r2 u2 => r = r2 ∧ RR M u u2) a1 σM) a1 σC) (hop22 : ∀ (M : Nat) (σC σM : St) (a1 a2 : Int32) , 53 ≤ M → RR M σC σM → w_X6_strokes M (fun r u => w_X7_strokes 20 (fun r2 u2 => r = r2 ∧ RR M u u2) a1 a2 σM) a1 a2 σC) (hop23 : ∀ (M : Nat) (σC σM : St) (a1 a2 a3 : Int32) , 53 ≤ M → RR M σC σM → w_X6_mix M (fun r u => w_X7_mix 20 (fun r2 u2 => r = r2 ∧ RR M u u2) a1 a2 a3 σM) a1 a2 a3 σC) (hop24 : ∀ (M : Nat) (σC σM : St) (a1 a2 : Int32) , 53 ≤ M → RR M σC σM → w_X6_week M (fun r u => w_X7_week 20 (fun r2 u2 => r = r2 ∧ RR M u u2) a1 a2 σM) a1 a2 σC) (hop25 : ∀ (M : Nat) (σC σM : St) (a1 a2 : Int32) , 53 ≤ M → RR M σC σM → w_X6_pace M (fun r u => w_X7_pace 20 (fun r2 u2 => r = r2 ∧ RR M u u2) a1 a2 σM) a1 a2 σC) (hop26 : ∀ (M : Nat) (σC σM : St) (a1 a2 a3 : Int32) , 53 ≤ M → RR M σC σM → w_X6_table M (fun r u => w_X7_table 20 (fun r2 u2 => r = r2 ∧ RR M u u2) a1 a2 a3 σM) a1 a2 a3 σC) (hop27 : ∀ (M : Nat) (σC σM : St) (a1 a2 : Int32) , 53 ≤ M → RR M σC σM → w_X6_dips M (fun r u => w_X7_dips 20 (fun r2 u2 => r = r2 ∧ RR M u u2) a1 a2 σM) a1 a2 σC) (hop28 : ∀ (M : Nat) (σC σM : St) (a1 a2 : Int32) , 53 ≤ M → RR M σC σM → w_X6_wick M (fun r u => w_X7_wick 20 (fun r2 u2 => r = r2 ∧ RR M u u2) a1 a2 σM) a1 a2 σC) (hop29 : ∀ (M : Nat) (σC σM : St) (a1 : Int32) , 53 ≤ M → RR M σC σM → w_X6_judge M (fun r u => w_X7_judge 20 (fun r2 u2 => r = r2 ∧ RR M u u2) a1 σM) a1 σC) (hop30 : ∀ (M : Nat) (σC σM : St) (a1 : Int32) , 53 ≤ M → RR M σC σM → w_X6_film M (fun r u => w_X7_film 20 (fun r2 u2 => r = r2 ∧ RR M u u2) a1 σM) a1 σC) (hop31 : ∀ (M : Nat) (σC σM : St) (a1 a2 : Int32) , 53 ≤ M → RR M σC σM → w_X6_ages M (fun r u => w_X7_ages 20 (fun r2 u2 => r = r2 ∧ RR M u u2) a1 a2 σM) a1 a2 σC) (hop32 : ∀ (M : Nat) (σC σM : St) (a1 : Int32) , 53 ≤ M → RR M σC σM → w_X6_which M (fun r u => w_X7_which 20 (fun r2 u2 => r = r2 ∧ RR M u u2) a1 σM) a1 σC) (hop33 : ∀ (M : Nat) (σC σM : St) (a1 a2 a3 : Int32) , 53 ≤ M → RR M σC σM → w_X6_drawn M (fun r u => w_X7_drawn 20 (fun r2 u2 => r = r2 ∧ RR M u u2) a1 a2 a3 σM) a1 a2 a3 σC) (hop34 : ∀ (M : Nat) (σC σM : St) (a1 a2 a3 : Int32) , 53 ≤ M → RR M σC σM → w_X6_chance M (fun r u => w_X7_chance 20 (fun r2 u2 => r = r2 ∧ RR M u u2) a1 a2 a3 σM) a1 a2 a3 σC) (hop35 : ∀ (M : Nat) (σC σM : St) , 53 ≤ M → RR M σC σM → w_X6_image M (fun r u => w_X7_image 20 (fun r2 u2 => r = r2 ∧ RR M u u2)  σM)  σC) (hop36 : ∀ (M : Nat) (σC σM : St) , 53 ≤ M → RR M σC σM → w_X6_back M (fun r u => w_X7_back 20 (fun r2 u2 => r = r2 ∧ RR M u u2)  σM)  σC) (hop37 : ∀ (M : Nat) (σC σM : St) (a1 a2 a3 : Int32) , 53 ≤ M → RR M σC σM → w_X6_sheet M (fun r u => w_X7_sheet 20 (fun r2 u2 => r = r2 ∧ RR M u u2) a1 a2 a3 σM) a1 a2 a3 σC) (hop38 : ∀ (M : Nat) (σC σM : St) (a1 a2 a3 : Int32) , 53 ≤ M → RR M σC σM → w_X6_cell M (fun r u => w_X7_cell 20 (fun r2 u2 => r = r2 ∧ RR M u u2) a1 a2 a3 σM) a1 a2 a3 σC) (hop39 : ∀ (M : Nat) (σC σM : St) (a1 a2 a3 a4 a5 : Int32) , 53 ≤ M → RR M σC σM → w_X6_copy M (fun r u => w_X7_copy 20 (fun r2 u2 => r = r2 ∧ RR M u u2) a1 a2 a3 a4 a5 σM) a1 a2 a3 a4 a5 σC) (hop40 : ∀ (M : Nat) (σC σM : St) (a1 a2 a3 a4 : Int32) , 53 ≤ M → RR M σC σM → w_X6_actsBy M (fun r u => w_X7_actsBy 20 (fun r2 u2 => r = r2 ∧ RR M u u2) a1 a2 a3 a4 σM) a1 a2 a3 a4 σC) (hop41 : ∀ (M : Nat) (σC σM : St) (a1 a2 : Int32) , 53 ≤ M → RR M σC σM → w_X6_taken M (fun r u => w_X7_taken 20 (fun r2 u2 => r = r2 ∧ RR M u u2) a1 a2 σM) a1 a2 σC) (adM : Nat → Nat) (c0 s0 : Nat) (hX : va_X b L xs s s.heap) (hbl : b < s.heap.size) (hbA : b < base) (hL : L ≤ 3584) (hcs : c0 + 2 * 512 + 2 ≤ room_1.cells ∧ s0 + 170 * 512 + 170 ≤ room_1.slots)
    (hcx : ∀ σM, CX (Gc D cs base K adM σM) p s m args meth c cL_law RL 4)
    (hend : ∀ (H : Heap) (locs : List Loc) (ls : Array Slot) (cells slots : Nat), cells ≤ c0 + 2 * 512 → slots ≤ s0 + 170 * 512 → va_S (fun q => base ≤ q) s.heap H locs → W p l e room_1 s m args below meth c H locs cells slots Q (F0 m 1583 ls [])) :
    ∀ (n k : Nat) (M : Nat) (adC : Nat → Nat) (σC σM : St) (H : Heap) (locs : List Loc) (ls : Array Slot), L + 7 ≤ 7 * k + 7 * n → 7 * k ≤ L → 53 ≤ M → RR M σC σM → WH (Gc D cs base K adM σM) YC M adC σC s H locs → lv_has ls 4 [(0, .ref b), (1, .ref (adC 0)), (2, .ref (adM 0)), (3, .int (nI (7 * k)))] → W p l e room_1 s m args below meth c H locs (c0 + 2 * k) (s0 + 170 * k) Q (F0 m 18 ls []) := by
  intro n
  induction n with
  | zero => intro k M adC σC σM H locs ls h1 h2; omega
  | succ n ih =>
    intro k M adC σC σM H locs ls h1 h2 hM hR hw hl
    have hc := hcx σM
    have hx := hc.1
    have hb := hc.2.1
    refine lv_iload_n hx hb dL_law_18 rfl (lv_at hl 3 rfl) ?_
    refine lv_aload_n hx hb dL_law_19 rfl (lv_at hl 0 rfl) ?_
    refine va_slen (A := fun q => base ≤ q) hx hb hX hbl (by omega) hw.2.2 dL_law_20 ?_
    refine lv_bipush (v := 7) hx hb dL_law_21 (by decide) ?_
    refine lv_isub hx hb dL_law_23 ?_
    refine lv_icmp_gt (tgt := 1583) hx hb dL_law_24 (by decide) (fun c1 => ?_) (fun c1 => ?_)
    · exact hend H locs ls _ _ (by omega) (by omega) hw.2.2
    · have hi : 7 * k + 7 ≤ L := by
        rcases Nat.lt_or_ge L (7 * k + 7) with q | q
        · refine absurd ?_ c1
          rw [Int32.lt_iff_toInt_lt]
          have e1 : (Int32.ofNat L - 7).toInt = (L : Int) - 7 := by
            have := pk_sub_toInt (a := L) (b := 7) (by omega) (by omega)
            exact this
          rw [e1, nI_toInt (by omega)]
          omega
        · exact q
      refine lv_aload_n hx hb dL_law_27 rfl (lv_at hl 0 rfl) ?_
      refine lv_iload_n hx hb dL_law_28 rfl (lv_at hl 3 rfl) ?_
      refine g_scr (k := 0) (i := 7 * k) hc hw.2.2 hX hbl hbA (by omega) (by omega) rfl dL_law_29 ?_
      refine lv_bipush (v := 63) hx hb dL_law_30 (by decide) ?_
      refine lv_iand hx hb dL_law_32 ?_
      refine law_case hop0 hop1 hop2 hop3 hop4 hop5 hop6 hop7 hop8 hop9 hop10 hop11 hop12 hop13 hop14 hop15 hop16 hop17 hop18 hop19 hop20 hop21 hop22 hop23 hop24 hop25 hop26 hop27 hop28 hop29 hop30 hop31 hop32 hop33 hop34 hop35 hop36 hop37 hop38 hop39 hop40 hop41 M adC adM σC σM H locs ls (c0 + 2 * k) (s0 + 170 * k) (7 * k) hM hR hc hw hX hbl hbA hi hL hl ⟨by have := hcs.1; omega, by have := hcs.2; omega⟩ (fun M' adC' σC' σM' H locs ls hM hR hw hl => ?_)
      refine lv_iinc (v := nI (7 * (k + 1))) (lv' := [(3, .int (nI (7 * (k + 1)))), (0, .ref b), (1, .ref (adC' 0)), (2, .ref (adM 0))]) hx hb dL_law_1577 hl (k := 3) rfl (by rw [show 7 * (k + 1) = 7 * k + 7 by omega, ← nI_add]; rfl) (by decide) rfl (fun ls hl => ?_)
      refine lv_goto (tgt := 18) hx hb dL_law_1580 (by decide) ?_
      exact ih (k + 1) M' adC' σC' σM' H locs ls (by omega) (by omega) hM hR hw (lv_sub hl [1, 2, 3, 0] rfl)

