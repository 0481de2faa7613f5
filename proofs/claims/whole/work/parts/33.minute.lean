theorem clamp_le {v : Int32} {j : Nat} (h : v.toNatClampNeg ≤ j) (hj : j < 2 ^ 31) : v ≤ nI j := by
  rw [Int32.le_iff_toInt_le, nI_toInt hj]
  have : v.toNatClampNeg = v.toInt.toNat := rfl
  omega
theorem clamp_gt {v : Int32} {j : Nat} (h : j < v.toNatClampNeg) : ¬ v ≤ nI j := by
  have e : v.toNatClampNeg = v.toInt.toNat := rfl
  have hv : v.toInt < 2 ^ 31 := Int32.toInt_lt v
  rw [Int32.le_iff_toInt_le, nI_toInt (by omega)]
  omega
theorem clamp_bd (v : Int32) : v.toNatClampNeg < 2 ^ 31 := by
  have e : v.toNatClampNeg = v.toInt.toNat := rfl
  have hv : v.toInt < 2 ^ 31 := Int32.toInt_lt v
  omega
section CMIN
variable {M : Nat} {post : St → Prop} {posti : Int32 → St → Prop} {σ : St} {o : Nat} {P : Pt} {f : Nat → Int32}
theorem c_worth' (hk : kdC o = 3 ∧ o < M) (ho : o + 1 < 53) {r : Nat} {L : Lw} (hr : gr σ o 1 = some r) (hL : LawAt M σ r L) {most pp : Int32} {p : Nat} (hpp : pp = nI p) (hp : p < 3) {ts : List Int32} (hts : Lpart L p = ts) (h : ∀ f', posti (clampF most (worthF P ts)) (pu σ o P f')) : w_X3_worth M posti o pp most (pu σ o P f) := by
  subst hpp
  subst hts
  have hw : wfE (Lpart L p) 0 := by
    obtain ⟨-, -, -, -, -, -, -, h8⟩ := hL
    rcases (show p = 0 ∨ p = 1 ∨ p = 2 by omega) with rfl | rfl | rfl
    · exact h8.1
    · exact h8.2.1
    · exact h8.2.2.1
  exact c_worth hk ho hr hL hp hw h
theorem c_ctell {s : St} {oc : Nat} (hoc : kdC oc = 1 ∧ oc < M) {c : Int32} {k : Nat} (hc : c = nI k) (hk5 : k < 5) (h : posti (gi s (oc + 1) k) s) : w_X1_tell M posti oc c s := by
  subst hc
  unfold w_X1_tell w_X1_hasPart
  refine ⟨hoc, br_f (nI_pos (by omega)) (br_f (nI_nlt (a := 4) (b := k) (by omega) (by omega)) (br_f (by decide) ⟨vp_in_nI hk5 (by decide), fun x4 e4 => ?_⟩))⟩
  rw [e4, nI_clamp (by omega)]
  exact h
theorem c_throw (hk : kdC o = 3 ∧ o < M) {oc : Nat} (hoc : kdC oc = 1 ∧ oc < M) (hn : oc + 1 ≠ o ∧ oc + 1 ≠ o + 1) {ch : Nat → Int32} (hch : ∀ k, k < 5 → gi σ (oc + 1) k = ch k) {a : Int32} (h : post (pu σ o (throwF ch a P) f)) : w_X3_throwIn M post o oc a (pu σ o P f) := by
  unfold w_X3_throwIn
  refine ⟨hk, hoc, ?_⟩
  intro σ1 e1
  subst e1
  try simp only [gp3, gp4, gp5, gp6, gp7, gp8, gp9, gp10, gp11, gp12, gp13, gp14, gp15, gp16, pu3, pu4, pu5, pu6, pu7, pu8, pu9, pu10, pu11, pu12, pu13, pu14, pu15, pu16, up_1, up_2, gl_pu, pu_sl, pu_ss, gi_pu_s, gr_pu, gz_pu, reduceIte, Nat.reduceEqDiff]
  refine c_ctell hoc (k := 0) (by decide) (by decide) ?_
  rw [gi_pu_n hn.1 hn.2, hch _ (by decide)]
  try simp only [gp3, gp4, gp5, gp6, gp7, gp8, gp9, gp10, gp11, gp12, gp13, gp14, gp15, gp16, pu3, pu4, pu5, pu6, pu7, pu8, pu9, pu10, pu11, pu12, pu13, pu14, pu15, pu16, up_1, up_2, gl_pu, pu_sl, pu_ss, gi_pu_s, gr_pu, gz_pu, reduceIte, Nat.reduceEqDiff]
  intro σ4 e4
  subst e4
  refine c_ctell hoc (k := 3) (by decide) (by decide) ?_
  rw [gi_pu_n hn.1 hn.2, hch _ (by decide)]
  try simp only [gp3, gp4, gp5, gp6, gp7, gp8, gp9, gp10, gp11, gp12, gp13, gp14, gp15, gp16, pu3, pu4, pu5, pu6, pu7, pu8, pu9, pu10, pu11, pu12, pu13, pu14, pu15, pu16, up_1, up_2, gl_pu, pu_sl, pu_ss, gi_pu_s, gr_pu, gz_pu, reduceIte, Nat.reduceEqDiff]
  intro σ7 e7
  subst e7
  refine c_ctell hoc (k := 1) (by decide) (by decide) ?_
  rw [gi_pu_n hn.1 hn.2, hch _ (by decide)]
  try simp only [gp3, gp4, gp5, gp6, gp7, gp8, gp9, gp10, gp11, gp12, gp13, gp14, gp15, gp16, pu3, pu4, pu5, pu6, pu7, pu8, pu9, pu10, pu11, pu12, pu13, pu14, pu15, pu16, up_1, up_2, gl_pu, pu_sl, pu_ss, gi_pu_s, gr_pu, gz_pu, reduceIte, Nat.reduceEqDiff]
  intro σ10 e10
  subst e10
  refine c_ctell hoc (k := 2) (by decide) (by decide) ?_
  rw [gi_pu_n hn.1 hn.2, hch _ (by decide)]
  try simp only [gp3, gp4, gp5, gp6, gp7, gp8, gp9, gp10, gp11, gp12, gp13, gp14, gp15, gp16, pu3, pu4, pu5, pu6, pu7, pu8, pu9, pu10, pu11, pu12, pu13, pu14, pu15, pu16, up_1, up_2, gl_pu, pu_sl, pu_ss, gi_pu_s, gr_pu, gz_pu, reduceIte, Nat.reduceEqDiff]
  intro σ13 e13 x14 e14 σ15 e15
  subst e13 e14 e15
  try simp only [gp3, gp4, gp5, gp6, gp7, gp8, gp9, gp10, gp11, gp12, gp13, gp14, gp15, gp16, pu3, pu4, pu5, pu6, pu7, pu8, pu9, pu10, pu11, pu12, pu13, pu14, pu15, pu16, up_1, up_2, gl_pu, pu_sl, pu_ss, gi_pu_s, gr_pu, gz_pu, reduceIte, Nat.reduceEqDiff]
  exact h
theorem c_dry (h : post (pu σ o (dryF P) f)) : w_X3_passMinute_140 M post o (pu σ o P f) := by
  unfold w_X3_passMinute_140
  intro x1 e1 x2 e2 σ3 e3
  subst e1 e2 e3
  try simp only [gp3, gp4, gp5, gp6, gp7, gp8, gp9, gp10, gp11, gp12, gp13, gp14, gp15, gp16, pu3, pu4, pu5, pu6, pu7, pu8, pu9, pu10, pu11, pu12, pu13, pu14, pu15, pu16, up_1, up_2, gl_pu, pu_sl, pu_ss, gi_pu_s, gr_pu, gz_pu, reduceIte, Nat.reduceEqDiff]
  exact h
theorem c_minute (hk : kdC o = 3 ∧ o < M) (ho : o + 1 < 53) {r : Nat} {L : Lw} (hr : gr σ o 1 = some r) (hL : LawAt M σ r L) {a : Int32} (h : ∀ f', post (pu σ o (minuteF L a P) f')) : w_X3_passMinute M post o a (pu σ o P f) := by
  unfold minuteF at h
  unfold w_X3_passMinute
  refine ⟨hk, ?_⟩
  intro σ1 e1 x2 e2
  subst e1 e2
  try simp only [gp3, gp4, gp5, gp6, gp7, gp8, gp9, gp10, gp11, gp12, gp13, gp14, gp15, gp16, pu3, pu4, pu5, pu6, pu7, pu8, pu9, pu10, pu11, pu12, pu13, pu14, pu15, pu16, up_1, up_2, gl_pu, pu_sl, pu_ss, gi_pu_s, gr_pu, gz_pu, reduceIte, Nat.reduceEqDiff]
  refine c_flicker hk ?_
  intro x5 e5 x6 e6 x7 e7 σ8 e8
  subst e5 e6 e7 e8
  try simp only [gp3, gp4, gp5, gp6, gp7, gp8, gp9, gp10, gp11, gp12, gp13, gp14, gp15, gp16, pu3, pu4, pu5, pu6, pu7, pu8, pu9, pu10, pu11, pu12, pu13, pu14, pu15, pu16, up_1, up_2, gl_pu, pu_sl, pu_ss, gi_pu_s, gr_pu, gz_pu, reduceIte, Nat.reduceEqDiff]
  have eH : up ((up P 14 (P.1 14 + 1)).1, lotF (up P 14 (P.1 14 + 1))) 6 (if 0 < (if P.1 6 + (12 * P.1 3 - P.1 6) / 3 + drawF (up P 14 (P.1 14 + 1)) < 120 then P.1 6 + (12 * P.1 3 - P.1 6) / 3 + drawF (up P 14 (P.1 14 + 1)) else 120) then (if P.1 6 + (12 * P.1 3 - P.1 6) / 3 + drawF (up P 14 (P.1 14 + 1)) < 120 then P.1 6 + (12 * P.1 3 - P.1 6) / 3 + drawF (up P 14 (P.1 14 + 1)) else 120) else 0) = heatF P := rfl
  have e7 : P.1 7 = (heatF P).1 7 := rfl
  rw [eH, e7]
  generalize heatF P = P1 at h ⊢
  refine c_worth' hk ho hr hL (p := 0) (ts := L.1) (by decide) (by decide) rfl (fun f1 => ?_)
  intro x11 e11 σ12 e12 x13 e13 σ14 e14
  subst e11 e12 e13 e14
  try simp only [gp3, gp4, gp5, gp6, gp7, gp8, gp9, gp10, gp11, gp12, gp13, gp14, gp15, gp16, pu3, pu4, pu5, pu6, pu7, pu8, pu9, pu10, pu11, pu12, pu13, pu14, pu15, pu16, up_1, up_2, gl_pu, pu_sl, pu_ss, gi_pu_s, gr_pu, gz_pu, reduceIte, Nat.reduceEqDiff]
  have eM : up (up P1 7 (P1.1 7 - P1.1 7 * clampF 100 (worthF P1 L.1) / 100)) 8 (P1.1 8 + P1.1 7 * clampF 100 (worthF P1 L.1) / 100) = meltF L P1 := rfl
  have e9 : P1.1 9 = (meltF L P1).1 9 := rfl
  rw [eM, e9]
  generalize meltF L P1 = P2 at h ⊢
  refine c_worth' hk ho hr hL (p := 1) (ts := L.2.1) (by decide) (by decide) rfl (fun f2 => ?_)
  intro x17 e17 σ18 e18
  subst e17 e18
  try simp only [gp3, gp4, gp5, gp6, gp7, gp8, gp9, gp10, gp11, gp12, gp13, gp14, gp15, gp16, pu3, pu4, pu5, pu6, pu7, pu8, pu9, pu10, pu11, pu12, pu13, pu14, pu15, pu16, up_1, up_2, gl_pu, pu_sl, pu_ss, gi_pu_s, gr_pu, gz_pu, reduceIte, Nat.reduceEqDiff]
  refine ⟨fun c => ?_, fun c => ?_⟩
  · intro σ20 e20
    subst e20
    try simp only [gp3, gp4, gp5, gp6, gp7, gp8, gp9, gp10, gp11, gp12, gp13, gp14, gp15, gp16, pu3, pu4, pu5, pu6, pu7, pu8, pu9, pu10, pu11, pu12, pu13, pu14, pu15, pu16, up_1, up_2, gl_pu, pu_sl, pu_ss, gi_pu_s, gr_pu, gz_pu, reduceIte, Nat.reduceEqDiff]
    refine c_settle hk (c_dry ?_)
    have eS : splitF L a P2 = settleF (up (up P2 9 (P2.1 9 - goneF L P2)) 11 (P2.1 11 + goneF L P2)) := by unfold splitF; rw [if_pos c]
    rw [eS] at h
    exact h f2
  · intro σ20 e20
    subst e20
    try simp only [gp3, gp4, gp5, gp6, gp7, gp8, gp9, gp10, gp11, gp12, gp13, gp14, gp15, gp16, pu3, pu4, pu5, pu6, pu7, pu8, pu9, pu10, pu11, pu12, pu13, pu14, pu15, pu16, up_1, up_2, gl_pu, pu_sl, pu_ss, gi_pu_s, gr_pu, gz_pu, reduceIte, Nat.reduceEqDiff]
    refine c_dry ?_
    have eS : splitF L a P2 = up (up P2 9 (P2.1 9 - goneF L P2)) 10 (P2.1 10 + goneF L P2) := by unfold splitF; rw [if_neg c]
    rw [eS] at h
    exact h f2
theorem c_mins {s : St} {a : Nat} (ha : kdC a = 0 ∧ a < M) (h : posti (minsF (gi s a 0) (gi s a 1)) s) : w_X0_minutesLong M posti a s := by
  unfold w_X0_minutesLong
  refine ⟨ha, ?_⟩
  unfold minsF at h
  refine ⟨fun c => ?_, fun c => ⟨fun d => ?_, fun d => ⟨fun e x4 e4 => ?_, fun e => ?_⟩⟩⟩
  · rw [if_pos c] at h; exact h
  · rw [if_neg c, if_pos d] at h; exact h
  · rw [if_neg c, if_neg d, if_pos e] at h; rw [e4]; exact h
  · rw [if_neg c, if_neg d, if_neg e] at h; exact h
theorem c_stir {s : St} {a : Nat} (ha : kdC a = 0 ∧ a < M) (h : posti (stirF (gi s a 0)) s) : w_X0_isStirred M posti a s := by
  unfold w_X0_isStirred
  refine ⟨ha, ?_⟩
  unfold stirF at h
  refine ⟨fun c => ?_, fun c => ?_⟩
  · rw [if_pos c] at h; exact h
  · rw [if_neg c] at h; exact h
theorem c_uloop (hk : kdC o = 3 ∧ o < M) (ho : o + 1 < 53) {r : Nat} {L : Lw} (hr : gr σ o 1 = some r) (hL : LawAt M σ r L) {a : Nat} (ha : kdC a = 0 ∧ a < M) (han : a ≠ o ∧ a ≠ o + 1) {v : Int32} :
    ∀ (n j : Nat) (P : Pt) (f : Nat → Int32), v.toNatClampNeg ≤ j + n → (n ≠ 0 → v.toNatClampNeg = j + n) → j < 2 ^ 31 → (∀ f', post (pu σ o (iterF (minuteF L (stirF (gi σ a 0))) n P) f')) → wl_X3_undergo_142 M post (n + 1) o a v (nI j) (pu σ o P f) := by
  intro n
  induction n with
  | zero =>
    intro j P f hv _ hj h
    exact br_t (clamp_le hv hj) (h f)
  | succ n ih =>
    intro j P f hv hv' hj h
    have hv2 := hv' (by omega)
    have hb := clamp_bd v
    show w_X3_undergo_142 M post _ o a v (nI j) (pu σ o P f)
    unfold w_X3_undergo_142
    refine br_f (clamp_gt (by omega)) (c_stir ha ?_)
    rw [gi_pu_n han.1 han.2]
    refine c_minute hk ho hr hL (fun f1 x5 e5 => ?_)
    rw [e5, nI_1]
    exact ih (j + 1) _ f1 (by omega) (fun _ => by omega) (by omega) h
theorem c_under (hk : kdC o = 3 ∧ o < M) (ho : o + 1 < 53) {r : Nat} {L : Lw} (hr : gr σ o 1 = some r) (hL : LawAt M σ r L) {a : Nat} (ha : kdC a = 0 ∧ a < M) (han : a ≠ o ∧ a ≠ o + 1) {q : Option Nat} {ch : Option (Nat → Int32)} (hq : (q = none ∧ ch = none) ∨ ∃ oc c, q = some oc ∧ ch = some c ∧ (kdC oc = 1 ∧ oc < M) ∧ (oc + 1 ≠ o ∧ oc + 1 ≠ o + 1) ∧ ∀ k, k < 5 → gi σ (oc + 1) k = c k)
    (h : ∀ f', post (pu σ o (underF L (gi σ a 0) (gi σ a 1) (gi σ a 2) ch P) f')) : w_X3_undergo M post o a q (pu σ o P f) := by
  unfold underF at h
  have gen : ∀ (P1 : Pt) (f1 : Nat → Int32), actF (gi σ a 0) (gi σ a 1) (gi σ a 2) ch P = P1 → w_X0_minutesLong M (fun r4 σ3 => ∃ n, wl_X3_undergo_142 M post n o a r4 0 σ3) a (pu σ o P1 f1) := by
    intro P1 f1 e1
    refine c_mins ha ⟨(minsF (gi σ a 0) (gi σ a 1)).toNatClampNeg + 1, ?_⟩
    rw [gi_pu_n han.1 han.2, gi_pu_n han.1 han.2]
    rw [e1] at h
    exact c_uloop hk ho hr hL ha han _ 0 P1 f1 (by omega) (fun _ => by omega) (by decide) h
  unfold w_X3_undergo
  refine ⟨hk, ha, ?_⟩
  rw [gi_pu_n han.1 han.2, gi_pu_n han.1 han.2, gi_pu_n han.1 han.2]
  unfold actF at gen
  refine ⟨fun c => ?_, fun c => ⟨fun d => ⟨fun e => ?_, fun oc e => ?_⟩, fun d => ⟨fun e => ?_, fun e => ⟨fun g => ?_, fun g => ⟨fun i => ?_, fun i => ?_⟩⟩⟩⟩⟩
  · rw [if_pos c] at gen
    exact c_pour hk (gen _ f rfl)
  · rw [if_neg c, if_pos d] at gen
    rcases hq with ⟨q1, q2⟩ | ⟨oc, cc, q1, -⟩
    · rw [q2] at gen
      exact gen _ f rfl
    · rw [q1] at e; cases e
  · rw [if_neg c, if_pos d] at gen
    rcases hq with ⟨q1, -⟩ | ⟨oc', cc, q1, q2, q3, q4, q5⟩
    · rw [q1] at e; cases e
    · rw [q1] at e
      cases e
      rw [q2] at gen
      exact ⟨q3, c_throw hk q3 q4 q5 (gen _ f rfl)⟩
  · rw [if_neg c, if_neg d, if_pos e] at gen
    exact c_beat hk (gen _ f rfl)
  · rw [if_neg c, if_neg d, if_neg e, if_pos g] at gen
    refine c_pour hk ?_
    intro x19 e19 x20 e20 σ21 e21
    rw [gi_pu_n han.1 han.2] at e19
    subst e19 e20 e21
    try simp only [gp3, gp4, gp5, gp6, gp7, gp8, gp9, gp10, gp11, gp12, gp13, gp14, gp15, gp16, pu3, pu4, pu5, pu6, pu7, pu8, pu9, pu10, pu11, pu12, pu13, pu14, pu15, pu16, up_1, up_2, gl_pu, pu_sl, pu_ss, gi_pu_s, gr_pu, gz_pu, reduceIte, Nat.reduceEqDiff]
    exact gen _ f rfl
  · rw [if_neg c, if_neg d, if_neg e, if_neg g, if_pos i] at gen
    refine c_beat hk ?_
    intro σ26 e26
    rw [gi_pu_n han.1 han.2] at e26
    subst e26
    try simp only [gp3, gp4, gp5, gp6, gp7, gp8, gp9, gp10, gp11, gp12, gp13, gp14, gp15, gp16, pu3, pu4, pu5, pu6, pu7, pu8, pu9, pu10, pu11, pu12, pu13, pu14, pu15, pu16, up_1, up_2, gl_pu, pu_sl, pu_ss, gi_pu_s, gr_pu, gz_pu, reduceIte, Nat.reduceEqDiff]
    exact gen _ f rfl
  · rw [if_neg c, if_neg d, if_neg e, if_neg g, if_neg i] at gen
    exact gen _ f rfl
theorem c_long (hk : kdC o = 3 ∧ o < M) (ho : o + 1 < 53) {r : Nat} {L : Lw} (hr : gr σ o 1 = some r) (hL : LawAt M σ r L) (h : ∀ f', posti (longF L P) (pu σ o P f')) : w_X3_threadsLong M posti o (pu σ o P f) := by
  unfold w_X3_threadsLong
  refine ⟨hk, ?_⟩
  try simp only [gp3, gp4, gp5, gp6, gp7, gp8, gp9, gp10, gp11, gp12, gp13, gp14, gp15, gp16, pu3, pu4, pu5, pu6, pu7, pu8, pu9, pu10, pu11, pu12, pu13, pu14, pu15, pu16, up_1, up_2, gl_pu, pu_sl, pu_ss, gi_pu_s, gr_pu, gz_pu, reduceIte, Nat.reduceEqDiff]
  unfold longF at h
  refine ⟨fun c => ?_, fun c => ?_⟩
  · rw [if_pos c] at h; exact h f
  · rw [if_neg c] at h
    exact c_worth' hk ho hr hL (p := 2) (ts := L.2.2) (by decide) (by decide) rfl (fun f1 => h f1)
theorem c_sort (hk : kdC o = 3 ∧ o < M) (ho : o + 1 < 53) {r : Nat} {L : Lw} (hr : gr σ o 1 = some r) (hL : LawAt M σ r L) (h : ∀ f', posti (sortF L P) (pu σ o P f')) : w_X3_sortNow M posti o (pu σ o P f) := by
  unfold w_X3_sortNow
  refine ⟨hk, ?_⟩
  try simp only [gp3, gp4, gp5, gp6, gp7, gp8, gp9, gp10, gp11, gp12, gp13, gp14, gp15, gp16, pu3, pu4, pu5, pu6, pu7, pu8, pu9, pu10, pu11, pu12, pu13, pu14, pu15, pu16, up_1, up_2, gl_pu, pu_sl, pu_ss, gi_pu_s, gr_pu, gz_pu, reduceIte, Nat.reduceEqDiff]
  unfold sortF at h
  refine ⟨fun c => ?_, fun c => ?_⟩
  · rw [if_pos c] at h; exact h f
  rw [if_neg c] at h
  refine c_holds hk ?_
  try simp only [gp3, gp4, gp5, gp6, gp7, gp8, gp9, gp10, gp11, gp12, gp13, gp14, gp15, gp16, pu3, pu4, pu5, pu6, pu7, pu8, pu9, pu10, pu11, pu12, pu13, pu14, pu15, pu16, up_1, up_2, gl_pu, pu_sl, pu_ss, gi_pu_s, gr_pu, gz_pu, reduceIte, Nat.reduceEqDiff]
  refine ⟨fun d => ?_, fun d => ?_⟩
  · rw [if_pos d] at h
    refine ⟨fun e => ?_, fun e => ⟨fun g => ?_, fun g => ?_⟩⟩
    · rw [if_pos e] at h; exact h f
    · rw [if_neg e, if_pos g] at h; exact h f
    · rw [if_neg e, if_neg g] at h; exact h f
  · rw [if_neg d] at h
    refine ⟨fun e => ?_, fun e => ?_⟩
    · rw [if_pos e] at h
      refine c_thick hk ⟨fun g => ?_, fun g => ?_⟩
      · rw [if_pos g] at h
        refine c_long hk ho hr hL (fun f1 => ⟨fun i => ?_, fun i => ?_⟩)
        · rw [if_pos i] at h; exact h f1
        · rw [if_neg i] at h; exact h f1
      · rw [if_neg g] at h; exact h f
    · rw [if_neg e] at h; exact h f
theorem c_tell (hk : kdC o = 3 ∧ o < M) (ho : o + 1 < 53) {r : Nat} {L : Lw} (hr : gr σ o 1 = some r) (hL : LawAt M σ r L) {w : Int32} (h : ∀ f', posti (tellF L P w) (pu σ o P f')) : w_X3_tell M posti o w (pu σ o P f) := by
  unfold w_X3_tell
  refine ⟨hk, ?_⟩
  try simp only [gp3, gp4, gp5, gp6, gp7, gp8, gp9, gp10, gp11, gp12, gp13, gp14, gp15, gp16, pu3, pu4, pu5, pu6, pu7, pu8, pu9, pu10, pu11, pu12, pu13, pu14, pu15, pu16, up_1, up_2, gl_pu, pu_sl, pu_ss, gi_pu_s, gr_pu, gz_pu, reduceIte, Nat.reduceEqDiff]
  unfold tellF at h
  refine ⟨fun c => ?_, fun c => ?_⟩
  · rw [if_pos c] at h; exact h f
  rw [if_neg c] at h
  clear c
  refine ⟨fun c => ?_, fun c => ?_⟩
  · rw [if_pos c] at h; exact h f
  rw [if_neg c] at h
  clear c
  refine ⟨fun c => ?_, fun c => ?_⟩
  · rw [if_pos c] at h; exact h f
  rw [if_neg c] at h
  clear c
  refine ⟨fun c => ?_, fun c => ?_⟩
  · rw [if_pos c] at h; exact h f
  rw [if_neg c] at h
  clear c
  refine ⟨fun c => ?_, fun c => ?_⟩
  · rw [if_pos c] at h; exact h f
  rw [if_neg c] at h
  clear c
  refine ⟨fun c => ?_, fun c => ?_⟩
  · rw [if_pos c] at h; exact h f
  rw [if_neg c] at h
  clear c
  refine ⟨fun c => ?_, fun c => ?_⟩
  · rw [if_pos c] at h; exact h f
  rw [if_neg c] at h
  clear c
  refine ⟨fun c => ?_, fun c => ?_⟩
  · rw [if_pos c] at h; exact h f
  rw [if_neg c] at h
  clear c
  refine ⟨fun c => ?_, fun c => ?_⟩
  · rw [if_pos c] at h; exact h f
  rw [if_neg c] at h
  clear c
  refine ⟨fun c => ?_, fun c => ?_⟩
  · rw [if_pos c] at h; exact h f
  rw [if_neg c] at h
  clear c
  refine ⟨fun c => ?_, fun c => ?_⟩
  · rw [if_pos c] at h; exact h f
  rw [if_neg c] at h
  clear c
  refine ⟨fun c => ?_, fun c => ?_⟩
  · rw [if_pos c] at h; exact c_thick hk (h f)
  rw [if_neg c] at h
  clear c
  refine ⟨fun c => ?_, fun c => ?_⟩
  · rw [if_pos c] at h; exact c_long hk ho hr hL (fun f1 => h f1)
  rw [if_neg c] at h
  clear c
  exact c_sort hk ho hr hL (fun f1 => h f1)
theorem c_becomeLike (hk : kdC o = 3 ∧ o < M) {o' : Nat} (hk' : kdC o' = 3 ∧ o' < M) (ho : o ≠ o' ∧ o ≠ o' + 1 ∧ o' ≠ o + 1) {Q : Pt} (hQ : ∀ k, 3 ≤ k ∧ k < 17 → gi σ o' k = Q.1 k) (hl : gl σ o' = Q.2) (h : post (pu (sr σ o 1 (gr σ o' 1)) o Q f)) : w_X3_becomeLike M post o o' (pu σ o P f) := by
  unfold w_X3_becomeLike
  refine ⟨hk, hk', ?_⟩
  intro q1 e1 σ2 e2 σ3 e3 σ4 e4 σ5 e5 σ6 e6 σ7 e7 σ8 e8 σ9 e9 σ10 e10 σ11 e11 σ12 e12 σ13 e13 σ14 e14 σ15 e15 σ16 e16 σ17 e17
  rw [gr_pu] at e1
  subst e1
  have e : sr (pu σ o P f) o 1 (gr σ o' 1) = pu (sr σ o 1 (gr σ o' 1)) o P f := rfl
  rw [e] at e2
  generalize hτ : sr σ o 1 (gr σ o' 1) = τ at e2 h
  have G : ∀ (P : Pt) (f : Nat → Int32) k, 3 ≤ k ∧ k < 17 → gi (pu τ o P f) o' k = Q.1 k := fun P f k hk => by rw [gi_pu_n (Ne.symm ho.1) ho.2.2, ← hτ, ← hQ k hk]; rfl
  have Gl : ∀ (P : Pt) (f : Nat → Int32), gl (pu τ o P f) o' = Q.2 := fun P f => by rw [gl_pu_n (Ne.symm ho.1), ← hτ, ← hl]; rfl
  rw [e2, Gl, pu_sl] at e3
  rw [e3, G _ _ 3 (by decide), pu3] at e4
  rw [e4, G _ _ 4 (by decide), pu4] at e5
  rw [e5, G _ _ 5 (by decide), pu5] at e6
  rw [e6, G _ _ 6 (by decide), pu6] at e7
  rw [e7, G _ _ 7 (by decide), pu7] at e8
  rw [e8, G _ _ 8 (by decide), pu8] at e9
  rw [e9, G _ _ 9 (by decide), pu9] at e10
  rw [e10, G _ _ 10 (by decide), pu10] at e11
  rw [e11, G _ _ 11 (by decide), pu11] at e12
  rw [e12, G _ _ 12 (by decide), pu12] at e13
  rw [e13, G _ _ 13 (by decide), pu13] at e14
  rw [e14, G _ _ 14 (by decide), pu14] at e15
  rw [e15, G _ _ 15 (by decide), pu15] at e16
  rw [e16, G _ _ 16 (by decide), pu16] at e17
  rw [e17]
  refine (congrArg post (pu_congr ?_)).mp h
  exact ⟨rfl, rfl, rfl, rfl, rfl, rfl, rfl, rfl, rfl, rfl, rfl, rfl, rfl, rfl, rfl⟩
end CMIN
