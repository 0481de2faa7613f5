def R_law : String := "ThreadsAndSplitsLaw"
def lw_P (b : Addr) (xs : List Int32) (args : Array Value) (s : State) : Prop := args = #[.ref b] ∧ s.IntsAt b xs ∧ xs.length ≤ 3584 ∧ (Jvm.Cond.and given_1 narrow_1).before args s = true
def lw_Q (_ : Array Value) (s : State) (o : Outcome) (t : State) : Prop := o = .returned (some (.int 1)) ∧ Framed s o t [] 600000 7302250
def lw_Z (below : List Frame) (a : Array Value) (s : State) : State → Prop := fun t => ∃ o, t.status = .running ∧ Ended t below o ∧ lw_Q a s o t
/-- the law's own end, with 1 on the stack, nothing written that was there before, its room as the claim has it -/
theorem lw_ret {p : Program} {l : Launch} {e : Env} {s : State} {m : MethodId} {below : List Frame} {meth : Method} {c : Code} {b : Nat} (hx : p.tables.exec = Jvm.exec) (hb : c.code = code) (hr : meth.sig.returnType = ret) (hlocks : meth.locks = false) {pc : Nat} {H : Heap} {ls : Array Slot} (hdg : decode code pc = .ok (.ireturn, 1)) : W p l e room_1 s m #[Value.ref b] below meth c H [] 600000 7302250 (lw_Z below #[Value.ref b] s) (F0 m pc ls [.int 1]) := by
  intro T hT X
  obtain ⟨fs, hret, hrun, hended, hW, hframe⟩ := X.leave (v := some (.int 1)) (hlocks := hlocks) (fun h => by rw [hr] at h; cases h)
  have hmeth' : T.vm.method? m = some meth := X.method'
  refine ⟨T.setFrames fs, ?_, .returned (some (.int 1)), hrun, hended, rfl, ⟨_, rfl⟩, hW, hframe⟩
  jvm_step X.here [X.here.top, hx, hb, hdg, hmeth', hr, ret, narrow_b1]
  (try refine ⟨rfl, ?_⟩); (try refine ⟨rfl, ?_⟩)
  first | (intro acts; rw [hret _ acts rfl rfl rfl]) | rw [hret _ _ rfl rfl rfl]
  exact Steps.refl _
/-- what holds at the law's entry: the machine, the code, the tables' words (any of lw_tbl by 'hts w (by decide +kernel)'), the script of L ints xs at the cell b, what the Statement gives of the start (any of its parts by flat_of_before) -/
def lw_At (p : Program) (s : State) (m : MethodId) (meth : Method) (c : Code) (b L : Nat) (xs : Nat → Int32) : Prop :=
  p.tables.exec = Jvm.exec ∧ c.code = code ∧ meth.sig.returnType = ret ∧ c.maxLocals = 4 ∧ s.vm.findClass R_law = some m.cls ∧ (∀ w ∈ lw_tbl, w.before #[Value.ref b] s = true) ∧ va_X b L xs s s.heap ∧ b < s.heap.size ∧ meth.locks = false ∧ (Jvm.Cond.and given_1 narrow_1).before #[Value.ref b] s = true
theorem q_93 : Cond.instanceMethod yX6_init ∈ TB := TB_at 93 (by decide +kernel) rfl
set_option maxRecDepth 100000 in
theorem q_94 : Cond.code yX6_init cX6_init 2 none ∈ TB := TB_at 94 rfl rfl
theorem iw_L_9 : IW RL 9 yX6_init cX6_init 2 0 := ⟨q_93, q_75, q_94, rfl, by decide +kernel⟩
theorem q_953 : Cond.instanceMethod yX7_init ∈ TB := TB_at 953 (by decide +kernel) rfl
set_option maxRecDepth 100000 in
theorem q_954 : Cond.code yX7_init cX7_init 3 none ∈ TB := TB_at 954 rfl rfl
theorem iw_L_12 : IW RL 12 yX7_init cX7_init 3 0 := ⟨q_953, q_89, q_954, rfl, by decide +kernel⟩
theorem q_90 : Cond.classLink RL 7 RX6 ∈ TB := TB_at 90 (by decide +kernel) rfl
theorem q_950 : Cond.classLink RL 10 RX7 ∈ TB := TB_at 950 (by decide +kernel) rfl
theorem q_92 : Cond.methodLink RL 9 yX6_init ∈ TB := TB_at 92 (by decide +kernel) rfl
theorem q_952 : Cond.methodLink RL 12 yX7_init ∈ TB := TB_at 952 (by decide +kernel) rfl
def fpre : List Cond := flatC (Jvm.Cond.and given_1 narrow_1)
def tmS (i : Nat) : Term := if i = 0 then .string "ThreadsAndSplits" 71 else if i = 1 then .string "ThreadsAndSplits$Reader" 115 else .string "ThreadsAndSplits$Reader" 108
def ofS (i : Nat) : Nat := if i = 0 then 47 else if i = 1 then 141 else 230
theorem fpre_at {w : Cond} (i : Nat) (h : fpre[i]? = some w) : w ∈ fpre := List.mem_of_getElem? h
theorem fs_ex : ∀ i, i < 3 → fpre[ofS i]? = some (Cond.exactly (tmS i) "java/lang/String") := by decide +kernel
theorem fs_co : ∀ i, i < 3 → fpre[ofS i + 1]? = some (Cond.eq (.field (tmS i) "java/lang/String" "coder" "B") (.int 0)) := by decide +kernel
theorem fs_ar : ∀ i, i < 3 → fpre[ofS i + 2]? = some (Cond.arrayOf (.field (tmS i) "java/lang/String" "value" "[B") .byte) := by decide +kernel
theorem fs_le : ∀ i, i < 3 → fpre[ofS i + 3]? = some (Cond.eq (.length (.field (tmS i) "java/lang/String" "value" "[B")) (.int (Int32.ofNat (lenT.getD i 0)))) := by decide +kernel
theorem fs_el0 : ∀ j, j < 90 → fpre[51 + j]? = some (Cond.eq (.elem (.field (tmS 0) "java/lang/String" "value" "[B") (.int (Int32.ofNat j))) (.int ((bytT.getD 0 []).getD j 0))) := by decide +kernel
theorem fs_el1 : ∀ j, j < 84 → fpre[145 + j]? = some (Cond.eq (.elem (.field (tmS 1) "java/lang/String" "value" "[B") (.int (Int32.ofNat j))) (.int ((bytT.getD 1 []).getD j 0))) := by decide +kernel
theorem fs_el2 : ∀ j, j < 8 → fpre[234 + j]? = some (Cond.eq (.elem (.field (tmS 2) "java/lang/String" "value" "[B") (.int (Int32.ofNat j))) (.int ((bytT.getD 2 []).getD j 0))) := by decide +kernel
theorem fs_n01 : fpre[229]? = some (Cond.not (Cond.eq (tmS 0) (tmS 1))) := by decide +kernel
theorem fs_n02 : fpre[242]? = some (Cond.not (Cond.eq (tmS 0) (tmS 2))) := by decide +kernel
theorem fs_n12 : fpre[243]? = some (Cond.not (Cond.eq (tmS 1) (tmS 2))) := by decide +kernel
theorem fm_ar : fpre[10]? = some (Cond.arrayOf (.static "ThreadsAndSplits" "MOST_TOLD" "[I") .int) := by decide +kernel
theorem fm_le : fpre[11]? = some (Cond.eq (.length (.static "ThreadsAndSplits" "MOST_TOLD" "[I")) (.int (Int32.ofNat 3))) := by decide +kernel
theorem fm_el : ∀ j, j < 3 → fpre[12 + j]? = some (Cond.eq (.elem (.static "ThreadsAndSplits" "MOST_TOLD" "[I") (.int (Int32.ofNat j))) (.int (mtv j))) := by decide +kernel
theorem fm_cs : fpre[4]? = some (Cond.eq (.static "java/lang/String" "COMPACT_STRINGS" "Z") (.int 1)) := by decide +kernel
theorem fm_si : fpre[5]? = some (Cond.isRef (.static "jdk/internal/util/Preconditions" "SIOOBE_FORMATTER" "Ljava/util/function/BiFunction;")) := by decide +kernel
theorem lw_at {w : Cond} (i : Nat) (h : lw_tbl[i]? = some w) : w ∈ lw_tbl := List.mem_of_getElem? h
section START
variable {p : Program} {s : State} {m : MethodId} {meth : Method} {c : Code} {b L : Nat} {xs : Nat → Int32}
/-- what stands all along, from the law's entry -/
theorem lw_env (C0 : lw_At p s m meth c b L xs) : ∃ (D : va_G) (cs : Nat → ClassId) (K : (Nat → Nat) × (Nat → Nat) × Nat), va_K D vwCl (tysW cs) s ∧ ∀ X : va_W, EV (D, cs, s.heap.size, X, K) s := by
  obtain ⟨hx, hb, hr, hml, hown, hts, hX, hbl, hlocks, hgv⟩ := C0
  have hs : ∀ w ∈ fpre, w.before #[Value.ref b] s = true := flat_of_before _ hgv
  have htb : ∀ w ∈ TB, w.before #[Value.ref b] s = true := fun w hw => hts w (List.mem_filter.mp hw).1
  have hA : ∀ a : Nat, a < s.heap.size → ¬ (fun q : Nat => s.heap.size ≤ q) a := fun a h => Nat.not_le.mpr h
  have hcl : ∀ k : Nat, ∃ z : ClassId × (Nat → Nat), ∀ q : vw_C, vwCl[k]? = some q → u_Kn s q.1 q.2.1 q.2.2 z.1 z.2 := by
    intro k
    match k with
    | 0 => obtain ⟨x, y, h⟩ := u_known (C := RX0) (T := TX0) (N := 3) (n := 3) htb inT0 (htb _ q_207); exact ⟨(x, y), fun q hq => by cases hq; exact h⟩
    | 1 => obtain ⟨x, y, h⟩ := u_known (C := RX1) (T := TX1) (N := 1) (n := 1) htb inT1 (htb _ q_228); exact ⟨(x, y), fun q hq => by cases hq; exact h⟩
    | 2 => obtain ⟨x, y, h⟩ := u_known (C := RX2) (T := TX2) (N := 3) (n := 3) htb inT2 (htb _ q_448); exact ⟨(x, y), fun q hq => by cases hq; exact h⟩
    | 3 => obtain ⟨x, y, h⟩ := u_known (C := RX3) (T := TX3) (N := 17) (n := 17) htb inT3 (htb _ q_145); exact ⟨(x, y), fun q hq => by cases hq; exact h⟩
    | 4 => obtain ⟨x, y, h⟩ := u_known (C := RX4) (T := TX4) (N := 10) (n := 10) htb inT4 (htb _ q_105); exact ⟨(x, y), fun q hq => by cases hq; exact h⟩
    | 5 => obtain ⟨x, y, h⟩ := u_known (C := RX5) (T := TX5) (N := 3) (n := 3) htb inT5 (htb _ q_237); exact ⟨(x, y), fun q hq => by cases hq; exact h⟩
    | 6 => obtain ⟨x, y, h⟩ := u_known (C := RX6) (T := TX6) (N := 17) (n := 17) htb inT6 (htb _ q_91); exact ⟨(x, y), fun q hq => by cases hq; exact h⟩
    | 7 => obtain ⟨x, y, h⟩ := u_known (C := RX7) (T := TX7) (N := 38) (n := 38) htb inT7 (htb _ q_951); exact ⟨(x, y), fun q hq => by cases hq; exact h⟩
    | k + 8 => exact ⟨(0, fun _ => 0), fun q hq => by simp at hq⟩
  obtain ⟨z, hz⟩ := Classical.axiomOfChoice hcl
  have hi : ∃ cA : ClassId, ArrOfT s cA .int ∧ va_RA s cA .int := by
    obtain ⟨cA, kA, comp, h1, h2, h3⟩ := Cond.arrayClass_spec (htb _ q_141)
    exact ⟨cA, fun N z => ⟨(fun k h => by cases h), kA, h2, comp, h3⟩, h1⟩
  have hch : ∃ cA : ClassId, ArrOfT s cA .char ∧ va_RA s cA .char := by
    obtain ⟨cA, kA, comp, h1, h2, h3⟩ := Cond.arrayClass_spec (htb _ q_1071)
    exact ⟨cA, fun N z => ⟨(fun k h => by cases h), kA, h2, comp, h3⟩, h1⟩
  have hq : ∀ C : String, va_AO C s → ∃ cA : ClassId, ArrOfT s cA (.object C) ∧ va_RA s cA (.object C) := by
    intro C h
    obtain ⟨comp, cA, kA, f1, f2, f3, f4, f5⟩ := Cond.arrayOver_spec (va_AO.use (A := #[Value.ref b]) h)
    exact ⟨cA, fun N z => ⟨(fun k h => by cases h), kA, f3, comp, f4⟩, kA, comp, f3, f4, f1, f5⟩
  have ao1 : va_AO "ThreadsAndSplits$Cheese" s := va_AO.of (hts _ (lw_at 99 (by decide +kernel)))
  have ao2 : va_AO "ThreadsAndSplits$Act" s := va_AO.of (hts _ (lw_at 101 (by decide +kernel)))
  have ao3 : va_AO "ThreadsAndSplits$Law" s := va_AO.of (hts _ (lw_at 103 (by decide +kernel)))
  have ao4 : va_AO "ThreadsAndSplits$Sheet" s := va_AO.of (hts _ (lw_at 143 (by decide +kernel)))
  obtain ⟨k0, g0⟩ := hi
  obtain ⟨k1, g1⟩ := hq _ ao1
  obtain ⟨k2, g2⟩ := hq _ ao2
  obtain ⟨k3, g3⟩ := hq _ ao3
  obtain ⟨k4, g4⟩ := hq _ ao4
  obtain ⟨k5, g5⟩ := hch
  obtain ⟨t, ht, hT⟩ := va_Tof (f := fun j => .int (mtv j)) (A := fun q : Nat => s.heap.size ≤ q) (N := 3) (by decide) (hs _ (fpre_at 10 fm_ar)) (va_eqt (hs _ (fpre_at 11 fm_le))) (fun j hj => va_eqt (hs _ (fpre_at (12 + j) (fm_el j hj)))) hA
  have lens : ∀ i : Nat, i < 3 → lenT.getD i 0 < 2 ^ 31 := by decide
  obtain ⟨adK, adV, hS, hR⟩ := vk_Sof (N := 3) (tm := tmS) (len := lenT) (byt := bytT) (A := fun q : Nat => s.heap.size ≤ q) lens (fun i hi => hs _ (fpre_at _ (fs_ex i hi))) (fun i hi => hs _ (fpre_at _ (fs_co i hi))) (fun i hi => hs _ (fpre_at _ (fs_ar i hi))) (fun i hi => hs _ (fpre_at _ (fs_le i hi)))
    (fun i hi j hj => by
      rcases (show i = 0 ∨ i = 1 ∨ i = 2 by omega) with rfl | rfl | rfl
      · exact hs _ (fpre_at _ (fs_el0 j hj))
      · exact hs _ (fpre_at _ (fs_el1 j hj))
      · exact hs _ (fpre_at _ (fs_el2 j hj)))
    (fun i j hi hj hij => by
      rcases (show i = 0 ∨ i = 1 ∨ i = 2 by omega) with rfl | rfl | rfl <;> rcases (show j = 0 ∨ j = 1 ∨ j = 2 by omega) with rfl | rfl | rfl
      · exact absurd rfl hij
      · exact Or.inl (hs _ (fpre_at _ fs_n01))
      · exact Or.inl (hs _ (fpre_at _ fs_n02))
      · exact Or.inr (hs _ (fpre_at _ fs_n01))
      · exact absurd rfl hij
      · exact Or.inl (hs _ (fpre_at _ fs_n12))
      · exact Or.inr (hs _ (fpre_at _ fs_n02))
      · exact Or.inr (hs _ (fpre_at _ fs_n12))
      · exact absurd rfl hij) hA
  refine ⟨(fun k => (z k).1, fun k => (z k).2), fun k => if k = 0 then k0 else if k = 1 then k1 else if k = 2 then k2 else if k = 3 then k3 else if k = 4 then k4 else k5, (adK, adV, t), ⟨fun k q hq => hz k q hq, fun k q hq => ?_⟩, fun X => ⟨?_, ⟨va_Zref (hts _ (lw_at 552 (by decide +kernel))) (htb _ q_75) ht hA, hT⟩, ⟨hS, vk_R.of (hts _ (lw_at 254 (by decide +kernel))) (hR 0 (by decide)), vk_R.of (hts _ (lw_at 326 (by decide +kernel))) (hR 1 (by decide)), vk_R.of (hts _ (lw_at 340 (by decide +kernel))) (hR 2 (by decide))⟩, ⟨va_Zof (hts _ (lw_at 264 (by decide +kernel))) (htb _ q_81) (va_eqt (hs _ (fpre_at 4 fm_cs))) hA, va_Zqof (hts _ (lw_at 280 (by decide +kernel))) (hts _ (lw_at 83 (by decide +kernel))) (hs _ (fpre_at 5 fm_si)) hA⟩, ao1, ao2, ao3, ao4⟩⟩
  · match k with
    | 0 => cases hq; exact g0
    | 1 => cases hq; exact g1
    | 2 => cases hq; exact g2
    | 3 => cases hq; exact g3
    | 4 => cases hq; exact g4
    | 5 => cases hq; exact g5
    | k + 6 => simp [tysW] at hq
  · intro w hw
    obtain ⟨h1, h2⟩ := List.mem_filter.mp hw
    have h3 := hts w (List.mem_append.mpr (Or.inr h1))
    cases w <;> first | (simp [k_isNest] at h2; done) | exact va_Nw.of rfl h3
end START
section START2
variable {Γ : Gm} {ad : Nat → Nat} {σ : St} {p : Program} {l : Launch} {e : Env} {R : Room} {s : State} {m : MethodId} {args : Array Value} {below : List Frame} {meth : Method} {c : Code} {H : Heap} {locs : List Loc} {cells slots : Nat} {Q : State → Prop} {cc : ByteArray} {pc nL : Nat} {ls : Array Slot} {rest st : List Value} {own : String}
theorem g_initX6 {index : Nat} {post : St → Nat → Prop} (hwd : IW own index yX6_init cX6_init 2 0) (hlink : Cond.methodLink own index yX6_init ∈ TB) (hR : 309 ≤ R.frames ∧ 9201 ≤ R.locals ∧ cells + 54 ≤ R.cells ∧ slots + 905 ≤ R.slots) (hRO : RO 1 (sN z0 0 0))
    (hc : CX Γ p s m args meth c cc own nL) (hw : WH Γ YG 1 ad (sN z0 0 0) s H locs) (hl : ls.size = nL) (hM : w_X6_init post) (hs : (rest.map fun v => v.category).sum ≤ 8) (hdg : decode cc pc = .ok (.invokespecial index, 3))
    (kk : ∀ (u : St) (M1 : Nat) (a1 : Nat → Nat) (H1 : Heap) (locs1 : List Loc), 53 ≤ M1 → post u M1 → (∀ o, o < 1 → a1 o = ad o) → WH Γ YC M1 a1 u s H1 locs1 → W p l e R s m args below meth c H1 locs1 (cells + 54) (slots + 905) Q (F0 m (pc + 3) ls rest)) : W p l e R s m args below meth c H locs cells slots Q (F0 m pc ls (.ref (ad 0) :: rest)) := by
  exact va_callv (va_runI (As := []) (rest := rest) ⟨hc.1, hc.2.1, hc.2.2.1, hc.2.2.2.1, hc.2.2.2.2.1⟩ (m_X6_init l hM) (cwI 0 hc.2.2.2.2.1 hwd.good rfl rfl rfl (hc.2.2.2.2.1 _ hwd.2.1) (hc.2.2.2.2.1 _ hlink) (hc.2.2.2.2.1 _ hwd.1) hwd.2.2.2.1 hwd.2.2.2.2 ⟨hR.1, hR.2.1⟩) ⟨fun a U g mk q => ⟨q.1, q.2.1.calling g mk a, q.2.2⟩, fun U hU hW => ⟨rfl, hw.wc hc hU hW, hRO⟩⟩ rfl rfl hl rfl (lv_room hs) hdg ⟨hR.2.2.1, hR.2.2.2⟩) hw.2.2 (fun q _ h => h) (fun q h => h) (fun u t H1 locs1 ht hvm hp hB _ _ hS => by obtain ⟨a1, hag, hWC⟩ := hB; exact kk u.1 u.2 a1 H1 locs1 hp.1 hp.2 hag (hWC.wh ht hS))
theorem g_initX7 {index : Nat} (hwd : IW own index yX7_init cX7_init 3 0) (hlink : Cond.methodLink own index yX7_init ∈ TB) (hR : 7 ≤ R.frames ∧ 142 ≤ R.locals ∧ cells + 20 ≤ R.cells ∧ slots + 4333 ≤ R.slots) (hRO : RO 1 (sN z0 0 0))
    (hc : CX Γ p s m args meth c cc own nL) (hw : WH Γ YN 1 ad (sN z0 0 0) s H locs) (hl : ls.size = nL) (hs : (rest.map fun v => v.category).sum ≤ 8) (hdg : decode cc pc = .ok (.invokespecial index, 3))
    (kk : ∀ (a1 : Nat → Nat) (H1 : Heap) (locs1 : List Loc), (∀ o, o < 1 → a1 o = ad o) → WH Γ YM 20 a1 T7 s H1 locs1 → W p l e R s m args below meth c H1 locs1 (cells + 20) (slots + 4333) Q (F0 m (pc + 3) ls rest)) : W p l e R s m args below meth c H locs cells slots Q (F0 m pc ls (.ref (ad 0) :: rest)) := by
  exact va_callv (va_runI (As := []) (rest := rest) ⟨hc.1, hc.2.1, hc.2.2.1, hc.2.2.2.1, hc.2.2.2.2.1⟩ (m_X7_init l) (cwI 0 hc.2.2.2.2.1 hwd.good rfl rfl rfl (hc.2.2.2.2.1 _ hwd.2.1) (hc.2.2.2.2.1 _ hlink) (hc.2.2.2.2.1 _ hwd.1) hwd.2.2.2.1 hwd.2.2.2.2 ⟨hR.1, hR.2.1⟩) ⟨fun a U g mk q => ⟨q.1, q.2.1.calling g mk a, q.2.2⟩, fun U hU hW => ⟨rfl, hw.wc hc hU hW, hRO⟩⟩ rfl rfl hl rfl (lv_room hs) hdg ⟨hR.2.2.1, hR.2.2.2⟩) hw.2.2 (fun q _ h => h) (fun q h => h) (fun u t H1 locs1 ht hvm hp hB _ _ hS => by obtain ⟨a1, hag, hWC⟩ := hB; subst hp; exact kk a1 H1 locs1 hag (hWC.wh ht hS))
end START2
theorem RO_z0 : RO 0 z0 := fun _ _ _ h => by cases h
theorem RO_z1 : RO 1 (sN z0 0 0) := RO_sN (n := 0) RO_z0
set_option maxHeartbeats 4000000 in
set_option maxRecDepth 20000 in
/-- the law's walk from its entry, over a relation of the two systems' numbers -/
theorem whole_open {RR : Nat → St → St → Prop} (hop0 : ∀ (M : Nat) (σC σM : St) (a1 a2 a3 a4 a5 : Int32) , 53 ≤ M → RR M σC σM → w_X6_cheese M (fun r u => w_X7_cheese 20 (fun r2 u2 => r = r2 ∧ RR M u u2) a1 a2 a3 a4 a5 σM) a1 a2 a3 a4 a5 σC) (hop1 : ∀ (M : Nat) (σC σM : St) (a1 a2 a3 : Int32) , 53 ≤ M → RR M σC σM → w_X6_ripen M (fun r u => w_X7_ripen 20 (fun r2 u2 => r = r2 ∧ RR M u u2) a1 a2 a3 σM) a1 a2 a3 σC) (hop2 : ∀ (M : Nat) (σC σM : St) (a1 a2 : Int32) , 53 ≤ M → RR M σC σM → w_X6_sortTold M (fun r u => w_X7_sortTold 20 (fun r2 u2 => r = r2 ∧ RR M u u2) a1 a2 σM) a1 a2 σC) (hop3 : ∀ (M : Nat) (σC σM : St) (a1 a2 : Int32) , 53 ≤ M → RR M σC σM → w_X6_set M (fun r u => w_X7_set 20 (fun r2 u2 => r = r2 ∧ RR M u u2) a1 a2 σM) a1 a2 σC) (hop4 : ∀ (M : Nat) (σC σM : St) (a1 : Int32) , 53 ≤ M → RR M σC σM → w_X6_count M (fun r u => w_X7_count 20 (fun r2 u2 => r = r2 ∧ RR M u u2) a1 σM) a1 σC) (hop5 : ∀ (M : Nat) (σC σM : St) (a1 a2 a3 a4 a5 a6 : Int32) , 53 ≤ M → RR M σC σM → w_X6_feed M (fun r u => w_X7_feed 20 (fun r2 u2 => r = r2 ∧ RR M u u2) a1 a2 a3 a4 a5 a6 σM) a1 a2 a3 a4 a5 a6 σC) (hop6 : ∀ (M : Nat) (σC σM : St), 53 ≤ M → RR M σC σM → w_X6_text M (fun r u M1 => w_X7_text 20 (fun r2 u2 => r = r2 ∧ RR M1 u u2) σM) σC) (hop7 : ∀ (M : Nat) (σC σM : St) (a1 : Int32) , 53 ≤ M → RR M σC σM → w_X6_force M (fun r u => w_X7_force 20 (fun r2 u2 => r = r2 ∧ RR M u u2) a1 σM) a1 σC) (hop8 : ∀ (M : Nat) (σC σM : St) (a1 a2 a3 : Int32) , 53 ≤ M → RR M σC σM → w_X6_act M (fun r u => w_X7_act 20 (fun r2 u2 => r = r2 ∧ RR M u u2) a1 a2 a3 σM) a1 a2 a3 σC) (hop9 : ∀ (M : Nat) (σC σM : St) , 53 ≤ M → RR M σC σM → w_X6_forget M (fun r u => w_X7_forget 20 (fun r2 u2 => r = r2 ∧ RR M u u2)  σM)  σC) (hop10 : ∀ (M : Nat) (σC σM : St) (a1 a2 : Int32) , 53 ≤ M → RR M σC σM → w_X6_actTold M (fun r u => w_X7_actTold 20 (fun r2 u2 => r = r2 ∧ RR M u u2) a1 a2 σM) a1 a2 σC) (hop11 : ∀ (M : Nat) (σC σM : St) (a1 a2 : Int32) , 53 ≤ M → RR M σC σM → w_X6_pot M (fun r u => w_X7_pot 20 (fun r2 u2 => r = r2 ∧ RR M u u2) a1 a2 σM) a1 a2 σC) (hop12 : ∀ (M : Nat) (σC σM : St) (a1 : Int32) , 53 ≤ M → RR M σC σM → w_X6_splits M (fun r u => w_X7_splits 20 (fun r2 u2 => r = r2 ∧ RR M u u2) a1 σM) a1 σC) (hop13 : ∀ (M : Nat) (σC σM : St) (a1 a2 : Int32) , 53 ≤ M → RR M σC σM → w_X6_hour M (fun r u => w_X7_hour 20 (fun r2 u2 => r = r2 ∧ RR M u u2) a1 a2 σM) a1 a2 σC) (hop14 : ∀ (M : Nat) (σC σM : St) , 53 ≤ M → RR M σC σM → w_X6_flames M (fun r u => w_X7_flames 20 (fun r2 u2 => r = r2 ∧ RR M u u2)  σM)  σC) (hop15 : ∀ (M : Nat) (σC σM : St) , 53 ≤ M → RR M σC σM → w_X6_sours M (fun r u => w_X7_sours 20 (fun r2 u2 => r = r2 ∧ RR M u u2)  σM)  σC) (hop16 : ∀ (M : Nat) (σC σM : St) , 53 ≤ M → RR M σC σM → w_X6_region M (fun r u => w_X7_region 20 (fun r2 u2 => r = r2 ∧ RR M u u2)  σM)  σC) (hop17 : ∀ (M : Nat) (σC σM : St) , 53 ≤ M → RR M σC σM → w_X6_most M (fun r u => w_X7_most 20 (fun r2 u2 => r = r2 ∧ RR M u u2)  σM)  σC) (hop18 : ∀ (M : Nat) (σC σM : St) (a1 a2 : Int32) , 53 ≤ M → RR M σC σM → w_X6_odds M (fun r u => w_X7_odds 20 (fun r2 u2 => r = r2 ∧ RR M u u2) a1 a2 σM) a1 a2 σC) (hop19 : ∀ (M : Nat) (σC σM : St) (a1 a2 a3 : Int32) , 53 ≤ M → RR M σC σM → w_X6_save M (fun r u => w_X7_save 20 (fun r2 u2 => r = r2 ∧ RR M u u2) a1 a2 a3 σM) a1 a2 a3 σC) (hop20 : ∀ (M : Nat) (σC σM : St) (a1 : Int32) , 53 ≤ M → RR M σC σM → w_X6_why M (fun r u => w_X7_why 20 (fun r2 u2 => r = r2 ∧ RR M u u2) a1 σM) a1 σC) (hop21 : ∀ (M : Nat) (σC σM : St) (a1 : Int32) , 53 ≤ M → RR M σC σM → w_X6_order M (fun r u => w_X7_order 20 (fun r2 u2 => r = r2 ∧ RR M u u2) a1 σM) a1 σC) (hop22 : ∀ (M : Nat) (σC σM : St) (a1 a2 : Int32) , 53 ≤ M → RR M σC σM → w_X6_strokes M (fun r u => w_X7_strokes 20 (fun r2 u2 => r = r2 ∧ RR M u u2) a1 a2 σM) a1 a2 σC) (hop23 : ∀ (M : Nat) (σC σM : St) (a1 a2 a3 : Int32) , 53 ≤ M → RR M σC σM → w_X6_mix M (fun r u => w_X7_mix 20 (fun r2 u2 => r = r2 ∧ RR M u u2) a1 a2 a3 σM) a1 a2 a3 σC) (hop24 : ∀ (M : Nat) (σC σM : St) (a1 a2 : Int32) , 53 ≤ M → RR M σC σM → w_X6_week M (fun r u => w_X7_week 20 (fun r2 u2 => r = r2 ∧ RR M u u2) a1 a2 σM) a1 a2 σC) (hop25 : ∀ (M : Nat) (σC σM : St) (a1 a2 : Int32) , 53 ≤ M → RR M σC σM → w_X6_pace M (fun r u => w_X7_pace 20 (fun r2 u2 => r = r2 ∧ RR M u u2) a1 a2 σM) a1 a2 σC) (hop26 : ∀ (M : Nat) (σC σM : St) (a1 a2 a3 : Int32) , 53 ≤ M → RR M σC σM → w_X6_table M (fun r u => w_X7_table 20 (fun r2 u2 => r = r2 ∧ RR M u u2) a1 a2 a3 σM) a1 a2 a3 σC) (hop27 : ∀ (M : Nat) (σC σM : St) (a1 a2 : Int32) , 53 ≤ M → RR M σC σM → w_X6_dips M (fun r u => w_X7_dips 20 (fun r2 u2 => r = r2 ∧ RR M u u2) a1 a2 σM) a1 a2 σC) (hop28 : ∀ (M : Nat) (σC σM : St) (a1 a2 : Int32) , 53 ≤ M → RR M σC σM → w_X6_wick M (fun r u => w_X7_wick 20 (fun r2 u2 => r = r2 ∧ RR M u u2) a1 a2 σM) a1 a2 σC) (hop29 : ∀ (M : Nat) (σC σM : St) (a1 : Int32) , 53 ≤ M → RR M σC σM → w_X6_judge M (fun r u => w_X7_judge 20 (fun r2 u2 => r = r2 ∧ RR M u u2) a1 σM) a1 σC) (hop30 : ∀ (M : Nat) (σC σM : St) (a1 : Int32) , 53 ≤ M → RR M σC σM → w_X6_film M (fun r u => w_X7_film 20 (fun r2 u2 => r = r2 ∧ RR M u u2) a1 σM) a1 σC) (hop31 : ∀ (M : Nat) (σC σM : St) (a1 a2 : Int32) , 53 ≤ M → RR M σC σM → w_X6_ages M (fun r u => w_X7_ages 20 (fun r2 u2 => r = r2 ∧ RR M u u2) a1 a2 σM) a1 a2 σC) (hop32 : ∀ (M : Nat) (σC σM : St) (a1 : Int32) , 53 ≤ M → RR M σC σM → w_X6_which M (fun r u => w_X7_which 20 (fun r2 u2 => r = r2 ∧ RR M u u2) a1 σM) a1 σC) (hop33 : ∀ (M : Nat) (σC σM : St) (a1 a2 a3 : Int32) , 53 ≤ M → RR M σC σM → w_X6_drawn M (fun r u => w_X7_drawn 20 (fun r2 u2 => r = r2 ∧ RR M u u2) a1 a2 a3 σM) a1 a2 a3 σC) (hop34 : ∀ (M : Nat) (σC σM : St) (a1 a2 a3 : Int32) , 53 ≤ M → RR M σC σM → w_X6_chance M (fun r u => w_X7_chance 20 (fun r2 u2 => r = r2 ∧ RR M u u2) a1 a2 a3 σM) a1 a2 a3 σC) (hop35 : ∀ (M : Nat) (σC σM : St) , 53 ≤ M → RR M σC σM → w_X6_image M (fun r u => w_X7_image 20 (fun r2 u2 => r = r2 ∧ RR M u u2)  σM)  σC) (hop36 : ∀ (M : Nat) (σC σM : St) , 53 ≤ M → RR M σC σM → w_X6_back M (fun r u => w_X7_back 20 (fun r2 u2 => r = r2 ∧ RR M u u2)  σM)  σC) (hop37 : ∀ (M : Nat) (σC σM : St) (a1 a2 a3 : Int32) , 53 ≤ M → RR M σC σM → w_X6_sheet M (fun r u => w_X7_sheet 20 (fun r2 u2 => r = r2 ∧ RR M u u2) a1 a2 a3 σM) a1 a2 a3 σC) (hop38 : ∀ (M : Nat) (σC σM : St) (a1 a2 a3 : Int32) , 53 ≤ M → RR M σC σM → w_X6_cell M (fun r u => w_X7_cell 20 (fun r2 u2 => r = r2 ∧ RR M u u2) a1 a2 a3 σM) a1 a2 a3 σC) (hop39 : ∀ (M : Nat) (σC σM : St) (a1 a2 a3 a4 a5 : Int32) , 53 ≤ M → RR M σC σM → w_X6_copy M (fun r u => w_X7_copy 20 (fun r2 u2 => r = r2 ∧ RR M u u2) a1 a2 a3 a4 a5 σM) a1 a2 a3 a4 a5 σC) (hop40 : ∀ (M : Nat) (σC σM : St) (a1 a2 a3 a4 : Int32) , 53 ≤ M → RR M σC σM → w_X6_actsBy M (fun r u => w_X7_actsBy 20 (fun r2 u2 => r = r2 ∧ RR M u u2) a1 a2 a3 a4 σM) a1 a2 a3 a4 σC) (hop41 : ∀ (M : Nat) (σC σM : St) (a1 a2 : Int32) , 53 ≤ M → RR M σC σM → w_X6_taken M (fun r u => w_X7_taken 20 (fun r2 u2 => r = r2 ∧ RR M u u2) a1 a2 σM) a1 a2 σC) (hinit : w_X6_init (fun u M => RR M u T7))
    {p : Program} {e : Env} {s : State} {m : MethodId} {below : List Frame} {meth : Method} {c : Code} (l : Launch) {b L : Nat} {xs : Nat → Int32} (hL : L ≤ 3584) (C0 : lw_At p s m meth c b L xs) : W p l e room_1 s m #[Value.ref b] below meth c s.heap [] 0 0 (lw_Z below #[Value.ref b] s) (entryFrame m ([Value.ref b] : List Value).toArray 4) := by
  obtain ⟨D, cs, K, hK, hE⟩ := lw_env C0
  obtain ⟨hx, hb, hr, hml, hown, hts, hX, hbl, hlocks, hgv⟩ := id C0
  have htb : ∀ w ∈ TB, w.before #[Value.ref b] s = true := fun w hw => hts w (List.mem_filter.mp hw).1
  have hcx : ∀ X : va_W, CX (D, cs, s.heap.size, X, K) p s m #[Value.ref b] meth c cL_law RL 4 := fun X => ⟨hx, hb, hml, hown, htb, hlocks, hK, Nat.le_refl _, hE X⟩
  have hl := lv_entry ([.ref b]) (n := 4) (Nat.le_of_ble_eq_true rfl)
  rw [lg_entry_eq]
  generalize (lg_sl ([.ref b]) ++ List.replicate (4 - (lg_sl ([.ref b])).length) Slot.unset).toArray = ls at hl ⊢
  have hl : lv_has ls 4 [(0, .ref b)] := hl
  have hc : CX (D, cs, s.heap.size, [], K) p s m #[Value.ref b] meth c cL_law RL 4 := hcx []
  have hw : WH (D, cs, s.heap.size, [], K) YG 0 (fun _ => 0) z0 s s.heap [] := ⟨fun k q h => by simp [wl] at h, ⟨fun i j p q h => by simp [wl] at h, fun k q h => by simp [wl] at h⟩, va_S.rf⟩
  refine g_newO (Y := YG) (ci := 6) (N := 17) (C := RX6) (T := TX6) (ty0 := tyX6) (M := 0) rfl inT6 tyX6_ok rfl (by decide) q_90 q_91 q_75 df_X6 rfl (lnC_sN _) rfl RO_z0 hc hw (Nat.le_of_ble_eq_true rfl) (Nat.le_of_ble_eq_true rfl) dL_law_0 (fun adx H hag hw => ?_)
  refine lv_dup hx hb dL_law_3 rfl ?_
  refine g_initX6 (rest := [.ref (adx 0)]) iw_L_9 q_92 ⟨Nat.le_of_ble_eq_true rfl, Nat.le_of_ble_eq_true rfl, Nat.le_of_ble_eq_true rfl, Nat.le_of_ble_eq_true rfl⟩ RO_z1 hc hw hl.1 hinit (Nat.le_of_ble_eq_true rfl) dL_law_4 (fun u M1 adC H locs hM1 hR hagC hw => ?_)
  refine W.eq (g2 := F0 m (4 + 3) ls [.ref (adC 0)]) (by rw [hagC 0 (by omega)]) ?_
  refine lv_astore_n (lv' := [(1, .ref (adC 0)), (0, .ref b)]) hx hb dL_law_7 rfl hl (by decide) rfl (fun ls hl => ?_)
  have hc : CX (Gm2 D cs s.heap.size K M1 adC u) p s m #[Value.ref b] meth c cL_law RL 4 := hcx _
  have hw : WH (Gm2 D cs s.heap.size K M1 adC u) YN 0 (fun _ => 0) z0 s H locs := by
    obtain ⟨h1, h2, h3⟩ := hw
    have e0 : ∀ E : Nat → va_E, wl 0 (fun _ => 0) E = [] := fun E => rfl
    refine ⟨?_, ?_, h3⟩
    · rw [e0, List.append_nil]; exact h1
    · rw [e0, List.append_nil]; exact h2
  refine g_newO (Y := YN) (ci := 7) (N := 38) (C := RX7) (T := TX7) (ty0 := tyX7) (M := 0) rfl inT7 tyX7_ok rfl (by decide) q_950 q_951 q_89 df_X7 rfl (fun _ _ _ => rfl) rfl RO_z0 hc hw (Nat.le_of_ble_eq_true rfl) (Nat.le_of_ble_eq_true rfl) dL_law_8 (fun ady H hag2 hw => ?_)
  refine lv_dup hx hb dL_law_11 rfl ?_
  refine g_initX7 (rest := [.ref (ady 0)]) iw_L_12 q_952 ⟨Nat.le_of_ble_eq_true rfl, Nat.le_of_ble_eq_true rfl, Nat.le_of_ble_eq_true rfl, Nat.le_of_ble_eq_true rfl⟩ RO_z1 hc hw hl.1 (Nat.le_of_ble_eq_true rfl) dL_law_12 (fun adM H locs hagM hw => ?_)
  refine W.eq (g2 := F0 m (12 + 3) ls [.ref (adM 0)]) (by rw [hagM 0 (by omega)]) ?_
  refine lv_astore_n (lv' := [(2, .ref (adM 0)), (1, .ref (adC 0)), (0, .ref b)]) hx hb dL_law_15 rfl hl (by decide) rfl (fun ls hl => ?_)
  refine lv_iconst (v := 0) hx hb dL_law_16 (by decide) ?_
  refine lv_istore_n (lv' := [(3, .int 0), (2, .ref (adM 0)), (1, .ref (adC 0)), (0, .ref b)]) hx hb dL_law_17 rfl hl (by decide) rfl (fun ls hl => ?_)
  refine W.widen (k := 100 + 2 * 0) (n := 6000 + 170 * 0) (Nat.le_of_ble_eq_true rfl) (Nat.le_of_ble_eq_true rfl) ?_
  refine law_loop (D := D) (cs := cs) (base := s.heap.size) (K := K) (RR := RR) (b := b) (L := L) (xs := xs) hop0 hop1 hop2 hop3 hop4 hop5 hop6 hop7 hop8 hop9 hop10 hop11 hop12 hop13 hop14 hop15 hop16 hop17 hop18 hop19 hop20 hop21 hop22 hop23 hop24 hop25 hop26 hop27 hop28 hop29 hop30 hop31 hop32 hop33 hop34 hop35 hop36 hop37 hop38 hop39 hop40 hop41 adM 100 6000 hX hbl hbl hL ⟨Nat.le_of_ble_eq_true rfl, Nat.le_of_ble_eq_true rfl⟩ (fun σM => hcx _) (fun H locs ls cells slots h1 h2 hS => ?_) 513 0 M1 adC u T7 H locs ls (by omega) (by omega) hM1 hR (WH_swap2 hw) (lv_sub hl [3, 2, 1, 0] rfl)
  refine va_forget (fun q hq => hS.2.2 q hq) ?_
  refine W.widen (k := 600000) (n := 7302250) (Nat.le_trans h1 (Nat.le_of_ble_eq_true rfl)) (Nat.le_trans h2 (Nat.le_of_ble_eq_true rfl)) ?_
  refine lv_iconst (v := 1) hx hb dL_law_1583 (by decide) ?_
  exact lw_ret hx hb hr hlocks dL_law_1584
