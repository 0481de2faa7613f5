theorem z0' : (0 : Int32).toInt = 0 := by decide
theorem PI_mono {B N B' N' : Int} {P : Pt} (h : PI B N P) (hB : B ≤ B') (hN : N ≤ N') : PI B' N' P := by
  unfold PI at h ⊢
  omega
theorem PI_eq {B N : Int} {P Q : Pt} (h : PI B N P) (e6 : Q.1 6 = P.1 6) (e12 : Q.1 12 = P.1 12) (e7 : Q.1 7 = P.1 7) (e8 : Q.1 8 = P.1 8) (e9 : Q.1 9 = P.1 9) (e10 : Q.1 10 = P.1 10) (e11 : Q.1 11 = P.1 11) (e4 : Q.1 4 = P.1 4) (e13 : Q.1 13 = P.1 13) (e15 : Q.1 15 = P.1 15) : PI B N Q := by
  unfold PI at h ⊢
  rw [e6, e12, e7, e8, e9, e10, e11, e4, e13, e15]
  exact h
theorem beatR_bd {B N : Int} {P : Pt} (hB : PB B N) (h : PI B N P) {a : Int32} (ha : 0 ≤ a.toInt ∧ a.toInt ≤ 9) : 0 ≤ (beatR a P).toInt ∧ (beatR a P).toInt ≤ (P.1 11).toInt := by
  unfold PI at h
  unfold PB at hB
  have e20 : (20 : Int32).toInt = 20 := by decide
  have e1 : (1 : Int32).toInt = 1 := by decide
  have d1 : (P.1 8 / 20).toInt = (P.1 8).toInt / 20 := by rw [idv (by omega) (by decide), e20]
  have d2 : (1 + P.1 12).toInt = 1 + (P.1 12).toInt := by rw [ia (by omega) (by omega), e1]
  have d3 : ((1 + P.1 12) + P.1 8 / 20).toInt = 1 + (P.1 12).toInt + (P.1 8).toInt / 20 := by rw [ia (by omega) (by omega), d1, d2]
  generalize hx : (1 + P.1 12) + P.1 8 / 20 = x at d3
  have m1 : 0 ≤ a.toInt * x.toInt := Int.mul_nonneg ha.1 (by omega)
  have m2 : a.toInt * x.toInt ≤ 9 * x.toInt := Int.mul_le_mul_of_nonneg_right ha.2 (by omega)
  have d4 : (a * x).toInt = a.toInt * x.toInt := im (by omega) (by omega)
  unfold beatR
  rw [hx]
  by_cases c : a * x < P.1 11
  · rw [if_pos c]
    have := ilt.mp c
    omega
  · rw [if_neg c]
    omega
theorem sub0 {x d : Int32} (hx : 0 ≤ x.toInt) (hd : 0 ≤ d.toInt) : 0 ≤ (if 0 < x - d then x - d else 0).toInt ∧ (if 0 < x - d then x - d else 0).toInt ≤ x.toInt := by
  have hb := ib x
  have hb2 := ib d
  have e : (x - d).toInt = x.toInt - d.toInt := isu (by omega) (by omega)
  have z := z0'
  by_cases c : 0 < x - d
  · rw [if_pos c]
    have := ilt.mp c
    omega
  · rw [if_neg c]
    omega
theorem PI_beat {B N : Int} {P : Pt} (hB : PB B N) (h : PI B N P) {a : Int32} (ha : 0 ≤ a.toInt ∧ a.toInt ≤ 9) : PI B N (beatF a P) := by
  have hr := beatR_bd hB h ha
  unfold PB at hB
  have e6 : (beatF a P).1 6 = P.1 6 := rfl
  have e12 : (beatF a P).1 12 = P.1 12 := rfl
  have e7 : (beatF a P).1 7 = P.1 7 := rfl
  have e8 : (beatF a P).1 8 = P.1 8 := rfl
  have e9 : (beatF a P).1 9 = P.1 9 := rfl
  have e10 : (beatF a P).1 10 = P.1 10 + beatR a P := rfl
  have e11 : (beatF a P).1 11 = P.1 11 - beatR a P := rfl
  have e4 : (beatF a P).1 4 = P.1 4 := rfl
  have e13 : (beatF a P).1 13 = (if 0 < P.1 13 - a then P.1 13 - a else 0) := rfl
  have e15 : (beatF a P).1 15 = P.1 15 := rfl
  unfold PI at h ⊢
  rw [e6, e12, e7, e8, e9, e10, e11, e4, e13, e15]
  have hc := sub0 (x := P.1 13) (d := a) (by omega) ha.1
  have d1 : (P.1 10 + beatR a P).toInt = (P.1 10).toInt + (beatR a P).toInt := ia (by omega) (by omega)
  have d2 : (P.1 11 - beatR a P).toInt = (P.1 11).toInt - (beatR a P).toInt := isu (by omega) (by omega)
  omega
theorem mnI {x m : Int32} (h : 0 ≤ x.toInt) (hm : 0 ≤ m.toInt) : 0 ≤ (if x < m then x else m).toInt ∧ (if x < m then x else m).toInt ≤ m.toInt := by
  by_cases c : x < m
  · rw [if_pos c]; have := ilt.mp c; omega
  · rw [if_neg c]; omega
theorem half9 {a : Int32} (ha : 0 ≤ a.toInt ∧ a.toInt ≤ 30) : (a / 2).toInt = a.toInt / 2 := by
  rw [idv ha.1 (by decide)]; rfl
theorem PI_pour {B N : Int} {P : Pt} (hB : PB B N) (h : PI B N P) {a b : Int32} (ha : 0 ≤ a.toInt ∧ a.toInt ≤ 9) : PI B N (pourF a b P) := by
  unfold PB at hB
  have e6 : (pourF a b P).1 6 = (if 0 < P.1 6 - a / 2 then P.1 6 - a / 2 else 0) := rfl
  have e12 : (pourF a b P).1 12 = P.1 12 := rfl
  have e7 : (pourF a b P).1 7 = P.1 7 := rfl
  have e8 : (pourF a b P).1 8 = P.1 8 := rfl
  have e9 : (pourF a b P).1 9 = P.1 9 := rfl
  have e10 : (pourF a b P).1 10 = P.1 10 := rfl
  have e11 : (pourF a b P).1 11 = P.1 11 := rfl
  have e4 : (pourF a b P).1 4 = (if P.1 4 + a < 9999 then P.1 4 + a else 9999) := rfl
  have e13 : (pourF a b P).1 13 = P.1 13 := rfl
  have e15 : (pourF a b P).1 15 = P.1 15 := rfl
  unfold PI at h ⊢
  rw [e6, e12, e7, e8, e9, e10, e11, e4, e13, e15]
  have h2 := half9 (a := a) (by omega)
  have hc := sub0 (x := P.1 6) (d := a / 2) (by omega) (by omega)
  have d1 : (P.1 4 + a).toInt = (P.1 4).toInt + a.toInt := ia (by omega) (by omega)
  have e99 : (9999 : Int32).toInt = 9999 := by decide
  have hw := mnI (x := P.1 4 + a) (m := 9999) (by omega) (by omega)
  omega
theorem mul99 {a c : Int32} (ha : 0 ≤ a.toInt ∧ a.toInt ≤ 30) (hc : 0 ≤ c.toInt ∧ c.toInt ≤ 99) : (a * c).toInt = a.toInt * c.toInt ∧ 0 ≤ a.toInt * c.toInt ∧ a.toInt * c.toInt ≤ 2970 := by
  have m1 : 0 ≤ a.toInt * c.toInt := Int.mul_nonneg ha.1 hc.1
  have m2 : a.toInt * c.toInt ≤ 30 * c.toInt := Int.mul_le_mul_of_nonneg_right ha.2 hc.1
  exact ⟨im (by omega) (by omega), m1, by omega⟩
theorem PI_throw {B N : Int} {P : Pt} (hB : PB (B + 2970) N) (hB0 : 0 ≤ B) (h : PI B N P) {a : Int32} {ch : Nat → Int32} (ha : 0 ≤ a.toInt ∧ a.toInt ≤ 30) (hch : ∀ k, k < 5 → 0 ≤ (ch k).toInt ∧ (ch k).toInt ≤ 99) : PI (B + 2970) N (throwF ch a P) := by
  unfold PB at hB
  have e6 : (throwF ch a P).1 6 = (if 0 < P.1 6 - a then P.1 6 - a else 0) := rfl
  have e12 : (throwF ch a P).1 12 = P.1 12 := rfl
  have e7 : (throwF ch a P).1 7 = P.1 7 + a * ch 3 := rfl
  have e8 : (throwF ch a P).1 8 = P.1 8 := rfl
  have e9 : (throwF ch a P).1 9 = P.1 9 + a * ch 1 := rfl
  have e10 : (throwF ch a P).1 10 = P.1 10 := rfl
  have e11 : (throwF ch a P).1 11 = P.1 11 := rfl
  have e4 : (throwF ch a P).1 4 = P.1 4 + a * ch 2 := rfl
  have e13 : (throwF ch a P).1 13 = P.1 13 := rfl
  have e15 : (throwF ch a P).1 15 = P.1 15 + a := rfl
  unfold PI at h ⊢
  rw [e6, e12, e7, e8, e9, e10, e11, e4, e13, e15]
  have hc := sub0 (x := P.1 6) (d := a) (by omega) (by omega)
  have m1 := mul99 ha (hch 1 (by omega))
  have m2 := mul99 ha (hch 2 (by omega))
  have m3 := mul99 ha (hch 3 (by omega))
  have d1 : (P.1 9 + a * ch 1).toInt = (P.1 9).toInt + a.toInt * (ch 1).toInt := by rw [ia (by omega) (by omega), m1.1]
  have d2 : (P.1 4 + a * ch 2).toInt = (P.1 4).toInt + a.toInt * (ch 2).toInt := by rw [ia (by omega) (by omega), m2.1]
  have d3 : (P.1 7 + a * ch 3).toInt = (P.1 7).toInt + a.toInt * (ch 3).toInt := by rw [ia (by omega) (by omega), m3.1]
  have d4 : (P.1 15 + a).toInt = (P.1 15).toInt + a.toInt := ia (by omega) (by omega)
  omega
theorem PI_heat {B N : Int} {P : Pt} (h : PI B N P) : PI B N (heatF P) := by
  have e6 : (heatF P).1 6 = clampF 120 (heatX P) := rfl
  have e12 : (heatF P).1 12 = P.1 12 := rfl
  have e7 : (heatF P).1 7 = P.1 7 := rfl
  have e8 : (heatF P).1 8 = P.1 8 := rfl
  have e9 : (heatF P).1 9 = P.1 9 := rfl
  have e10 : (heatF P).1 10 = P.1 10 := rfl
  have e11 : (heatF P).1 11 = P.1 11 := rfl
  have e4 : (heatF P).1 4 = P.1 4 := rfl
  have e13 : (heatF P).1 13 = P.1 13 := rfl
  have e15 : (heatF P).1 15 = P.1 15 := rfl
  unfold PI at h ⊢
  rw [e6, e12, e7, e8, e9, e10, e11, e4, e13, e15]
  have e120 : (120 : Int32).toInt = 120 := by decide
  have := clampF_bd 120 (heatX P) (by omega)
  omega
theorem PI_melt {B N : Int} {P : Pt} {L : Lw} (hB : PB B N) (h : PI B N P) : PI B N (meltF L P) := by
  unfold PB at hB
  have e6 : (meltF L P).1 6 = P.1 6 := rfl
  have e12 : (meltF L P).1 12 = P.1 12 := rfl
  have e7 : (meltF L P).1 7 = P.1 7 - P.1 7 * clampF 100 (worthF P L.1) / 100 := rfl
  have e8 : (meltF L P).1 8 = P.1 8 + P.1 7 * clampF 100 (worthF P L.1) / 100 := rfl
  have e9 : (meltF L P).1 9 = P.1 9 := rfl
  have e10 : (meltF L P).1 10 = P.1 10 := rfl
  have e11 : (meltF L P).1 11 = P.1 11 := rfl
  have e4 : (meltF L P).1 4 = P.1 4 := rfl
  have e13 : (meltF L P).1 13 = P.1 13 := rfl
  have e15 : (meltF L P).1 15 = P.1 15 := rfl
  unfold PI at h ⊢
  rw [e6, e12, e7, e8, e9, e10, e11, e4, e13, e15]
  have e100 : (100 : Int32).toInt = 100 := by decide
  have hw := clampF_bd 100 (worthF P L.1) (by omega)
  have hp := pctI (a := P.1 7) (w := clampF 100 (worthF P L.1)) (by omega) (by omega) hw.1 (by omega)
  have d1 := isu (x := P.1 7) (y := P.1 7 * clampF 100 (worthF P L.1) / 100) (by omega) (by omega)
  have d2 := ia (x := P.1 8) (y := P.1 7 * clampF 100 (worthF P L.1) / 100) (by omega) (by omega)
  omega
theorem gone_bd {B N : Int} {P : Pt} {L : Lw} (hB : PB B N) (h : PI B N P) : 0 ≤ (goneF L P).toInt ∧ (goneF L P).toInt ≤ (P.1 9).toInt := by
  unfold PB at hB
  unfold PI at h
  have e100 : (100 : Int32).toInt = 100 := by decide
  have hw := clampF_bd 100 (worthF P L.2.1) (by omega)
  have hp := pctI (a := P.1 9) (w := clampF 100 (worthF P L.2.1)) (by omega) (by omega) hw.1 (by omega)
  unfold goneF
  omega
theorem PI_settle {B N : Int} {P : Pt} (hB : PB B (N + 1)) (hN : 0 ≤ N) (h : PI B N P) : PI B (N + 1) (settleF P) := by
  unfold PB at hB
  have e2 : (2 : Int32).toInt = 2 := by decide
  have e1 : (1 : Int32).toInt = 1 := by decide
  have e50 : (50 : Int32).toInt = 50 := by decide
  have hd : (P.1 10 / 2).toInt = (P.1 10).toInt / 2 := by
    unfold PI at h
    rw [idv (by omega) (by decide), e2]
  by_cases c : P.1 6 ≤ 60
  · have e : settleF P = up (up P 10 (P.1 10 - P.1 10 / 2)) 11 (P.1 11 + P.1 10 / 2) := by unfold settleF; rw [if_pos c]
    rw [e]
    generalize hQ : up (up P 10 (P.1 10 - P.1 10 / 2)) 11 (P.1 11 + P.1 10 / 2) = Q
    have e6 : Q.1 6 = P.1 6 := by rw [← hQ]; rfl
    have e12 : Q.1 12 = P.1 12 := by rw [← hQ]; rfl
    have e7 : Q.1 7 = P.1 7 := by rw [← hQ]; rfl
    have e8 : Q.1 8 = P.1 8 := by rw [← hQ]; rfl
    have e9 : Q.1 9 = P.1 9 := by rw [← hQ]; rfl
    have e10 : Q.1 10 = P.1 10 - P.1 10 / 2 := by rw [← hQ]; rfl
    have e11 : Q.1 11 = P.1 11 + P.1 10 / 2 := by rw [← hQ]; rfl
    have e4 : Q.1 4 = P.1 4 := by rw [← hQ]; rfl
    have e13 : Q.1 13 = P.1 13 := by rw [← hQ]; rfl
    have e15 : Q.1 15 = P.1 15 := by rw [← hQ]; rfl
    unfold PI at h ⊢
    rw [e6, e12, e7, e8, e9, e10, e11, e4, e13, e15]
    have d1 := isu (x := P.1 10) (y := P.1 10 / 2) (by omega) (by omega)
    have d2 := ia (x := P.1 11) (y := P.1 10 / 2) (by omega) (by omega)
    omega
  · have e : settleF P = up (up (up P 10 (P.1 10 - P.1 10 / 2)) 11 (P.1 11 + P.1 10 / 2)) 13 (P.1 13 + (1 + P.1 7 / 50)) := by unfold settleF; rw [if_neg c]
    rw [e]
    generalize hQ : up (up (up P 10 (P.1 10 - P.1 10 / 2)) 11 (P.1 11 + P.1 10 / 2)) 13 (P.1 13 + (1 + P.1 7 / 50)) = Q
    have e6 : Q.1 6 = P.1 6 := by rw [← hQ]; rfl
    have e12 : Q.1 12 = P.1 12 := by rw [← hQ]; rfl
    have e7 : Q.1 7 = P.1 7 := by rw [← hQ]; rfl
    have e8 : Q.1 8 = P.1 8 := by rw [← hQ]; rfl
    have e9 : Q.1 9 = P.1 9 := by rw [← hQ]; rfl
    have e10 : Q.1 10 = P.1 10 - P.1 10 / 2 := by rw [← hQ]; rfl
    have e11 : Q.1 11 = P.1 11 + P.1 10 / 2 := by rw [← hQ]; rfl
    have e4 : Q.1 4 = P.1 4 := by rw [← hQ]; rfl
    have e13 : Q.1 13 = P.1 13 + (1 + P.1 7 / 50) := by rw [← hQ]; rfl
    have e15 : Q.1 15 = P.1 15 := by rw [← hQ]; rfl
    unfold PI at h ⊢
    rw [e6, e12, e7, e8, e9, e10, e11, e4, e13, e15]
    have d1 := isu (x := P.1 10) (y := P.1 10 / 2) (by omega) (by omega)
    have d2 := ia (x := P.1 11) (y := P.1 10 / 2) (by omega) (by omega)
    have d3 : (P.1 7 / 50).toInt = (P.1 7).toInt / 50 := by rw [idv (by omega) (by decide), e50]
    have d4 := ia (x := 1) (y := P.1 7 / 50) (by omega) (by omega)
    have d5 := ia (x := P.1 13) (y := 1 + P.1 7 / 50) (by omega) (by omega)
    omega
theorem PI_split {B N : Int} {P : Pt} {L : Lw} {st : Int32} (hB : PB B (N + 1)) (hN : 0 ≤ N) (h : PI B N P) : PI B (N + 1) (splitF L st P) := by
  have hB' : PB B N := by unfold PB at hB ⊢; omega
  have hg := gone_bd (L := L) hB' h
  unfold PB at hB'
  have key : ∀ Q : Pt, (Q.1 6 = P.1 6 ∧ Q.1 12 = P.1 12 ∧ Q.1 7 = P.1 7 ∧ Q.1 8 = P.1 8 ∧ Q.1 9 = P.1 9 - goneF L P ∧ Q.1 4 = P.1 4 ∧ Q.1 13 = P.1 13 ∧ Q.1 15 = P.1 15) → ((Q.1 10 = P.1 10 ∧ Q.1 11 = P.1 11 + goneF L P) ∨ (Q.1 10 = P.1 10 + goneF L P ∧ Q.1 11 = P.1 11)) → PI B N Q := by
    intro Q ⟨e6, e12, e7, e8, e9, e4, e13, e15⟩ ho
    unfold PI at h ⊢
    rw [e6, e12, e7, e8, e9, e4, e13, e15]
    have d1 := isu (x := P.1 9) (y := goneF L P) (by omega) (by omega)
    have d2 := ia (x := P.1 11) (y := goneF L P) (by omega) (by omega)
    have d3 := ia (x := P.1 10) (y := goneF L P) (by omega) (by omega)
    rcases ho with ⟨o1, o2⟩ | ⟨o1, o2⟩
    · rw [o1, o2]; omega
    · rw [o1, o2]; omega
  by_cases c : st = 0
  · have e : splitF L st P = settleF (up (up P 9 (P.1 9 - goneF L P)) 11 (P.1 11 + goneF L P)) := by unfold splitF; rw [if_pos c]
    rw [e]
    exact PI_settle hB hN (key _ ⟨rfl, rfl, rfl, rfl, rfl, rfl, rfl, rfl⟩ (Or.inl ⟨rfl, rfl⟩))
  · have e : splitF L st P = up (up P 9 (P.1 9 - goneF L P)) 10 (P.1 10 + goneF L P) := by unfold splitF; rw [if_neg c]
    rw [e]
    exact PI_mono (key _ ⟨rfl, rfl, rfl, rfl, rfl, rfl, rfl, rfl⟩ (Or.inr ⟨rfl, rfl⟩)) (by omega) (by omega)
theorem heat40 {x : Int32} (h : 0 ≤ x.toInt ∧ x.toInt ≤ 120) : 0 ≤ (x / 40).toInt := by
  have e : (40 : Int32).toInt = 40 := by decide
  rw [idv h.1 (by decide), e]
  omega
theorem PI_dry {B N : Int} {P : Pt} (h : PI B N P) : PI B N (dryF P) := by
  have e6 : (dryF P).1 6 = P.1 6 := rfl
  have e12 : (dryF P).1 12 = P.1 12 := rfl
  have e7 : (dryF P).1 7 = P.1 7 := rfl
  have e8 : (dryF P).1 8 = P.1 8 := rfl
  have e9 : (dryF P).1 9 = P.1 9 := rfl
  have e10 : (dryF P).1 10 = P.1 10 := rfl
  have e11 : (dryF P).1 11 = P.1 11 := rfl
  have e4 : (dryF P).1 4 = (if 0 < P.1 4 - P.1 6 / 40 then P.1 4 - P.1 6 / 40 else 0) := rfl
  have e13 : (dryF P).1 13 = P.1 13 := rfl
  have e15 : (dryF P).1 15 = P.1 15 := rfl
  unfold PI at h ⊢
  rw [e6, e12, e7, e8, e9, e10, e11, e4, e13, e15]
  have := sub0 (x := P.1 4) (d := P.1 6 / 40) (by omega) (heat40 (by omega))
  omega
theorem PI_minute {B N : Int} {P : Pt} {L : Lw} {st : Int32} (hB : PB B (N + 1)) (hN : 0 ≤ N) (h : PI B N P) : PI B (N + 1) (minuteF L st P) := by
  have hB' : PB B N := by unfold PB at hB ⊢; omega
  exact PI_dry (PI_split hB hN (PI_melt hB' (PI_heat h)))
theorem PI_iter {B : Int} {L : Lw} {st : Int32} : ∀ (n : Nat) {N : Int} {P : Pt}, PB B (N + n) → 0 ≤ N → PI B N P → PI B (N + n) (iterF (minuteF L st) n P) := by
  intro n
  induction n with
  | zero => intro N P _ _ h; exact PI_mono h (by omega) (by omega)
  | succ n ih =>
    intro N P hB hN h
    have h1 := PI_minute (L := L) (st := st) (by unfold PB at hB ⊢; omega) hN h
    have h2 := ih (N := N + 1) (by unfold PB at hB ⊢; omega) (by omega) h1
    exact PI_mono h2 (by omega) (by omega)
theorem mins_bd {k m : Int32} (hm : 0 ≤ m.toInt ∧ m.toInt ≤ 9) : (minsF k m).toNatClampNeg ≤ 10 := by
  have e : (minsF k m).toNatClampNeg = (minsF k m).toInt.toNat := rfl
  have e1 : (1 : Int32).toInt = 1 := by decide
  have d : (1 + m).toInt = 1 + m.toInt := by rw [ia (by omega) (by omega), e1]
  rw [e]
  unfold minsF
  split
  · omega
  · split
    · omega
    · split
      · split <;> omega
      · omega
/-- an act's numbers -/
def okA (k m f : Int32) : Prop := (0 ≤ k.toInt ∧ k.toInt ≤ 5) ∧ (0 ≤ m.toInt ∧ m.toInt ≤ 9) ∧ (0 ≤ f.toInt ∧ f.toInt ≤ 9)
def okC (c : Nat → Int32) : Prop := ∀ k, k < 5 → 0 ≤ (c k).toInt ∧ (c k).toInt ≤ 99
theorem PI_starch {B N : Int} {Q : Pt} (hB : PB B N) (h : PI B N Q) {m : Int32} (h2 : 0 ≤ m.toInt ∧ m.toInt ≤ 9) : PI B N (up Q 12 (if Q.1 12 + m < 99 then Q.1 12 + m else 99)) := by
  generalize hR : up Q 12 (if Q.1 12 + m < 99 then Q.1 12 + m else 99) = R
  have e6 : R.1 6 = Q.1 6 := by rw [← hR]; rfl
  have e12 : R.1 12 = (if Q.1 12 + m < 99 then Q.1 12 + m else 99) := by rw [← hR]; rfl
  have e7 : R.1 7 = Q.1 7 := by rw [← hR]; rfl
  have e8 : R.1 8 = Q.1 8 := by rw [← hR]; rfl
  have e9 : R.1 9 = Q.1 9 := by rw [← hR]; rfl
  have e10 : R.1 10 = Q.1 10 := by rw [← hR]; rfl
  have e11 : R.1 11 = Q.1 11 := by rw [← hR]; rfl
  have e4 : R.1 4 = Q.1 4 := by rw [← hR]; rfl
  have e13 : R.1 13 = Q.1 13 := by rw [← hR]; rfl
  have e15 : R.1 15 = Q.1 15 := by rw [← hR]; rfl
  have e99 : (99 : Int32).toInt = 99 := by decide
  unfold PI at h ⊢
  rw [e6, e12, e7, e8, e9, e10, e11, e4, e13, e15]
  have d1 : (Q.1 12 + m).toInt = (Q.1 12).toInt + m.toInt := ia (by omega) (by omega)
  have hw := mnI (x := Q.1 12 + m) (m := 99) (by omega) (by omega)
  omega
theorem PI_act {B N : Int} {P : Pt} {k m f : Int32} {ch : Option (Nat → Int32)} (hB : PB (B + 2970) N) (hB0 : 0 ≤ B) (h : PI B N P) (ha : okA k m f) (hc : ∀ c, ch = some c → okC c) : PI (B + 2970) N (actF k m f ch P) := by
  have hB' : PB B N := by unfold PB at hB ⊢; omega
  obtain ⟨h1, h2, h3⟩ := ha
  unfold actF
  by_cases c1 : k = 1
  · rw [if_pos c1]
    exact PI_mono (PI_pour hB' h h2) (by omega) (by omega)
  rw [if_neg c1]
  by_cases c2 : k = 2
  · rw [if_pos c2]
    cases ch with
    | none => exact PI_mono h (by omega) (by omega)
    | some c => exact PI_throw hB hB0 h (by omega) (hc c rfl)
  rw [if_neg c2]
  by_cases c3 : k = 3
  · rw [if_pos c3]
    exact PI_mono (PI_beat hB' h h2) (by omega) (by omega)
  rw [if_neg c3]
  by_cases c4 : k = 4
  · rw [if_pos c4]
    exact PI_mono (PI_starch hB' (PI_pour hB' h h2) h2) (by omega) (by omega)
  rw [if_neg c4]
  by_cases c5 : k = 5
  · rw [if_pos c5]
    have hp := PI_beat hB' h h2
    generalize beatF m P = Q at hp ⊢
    exact PI_mono (PI_eq (Q := up Q 3 f) hp rfl rfl rfl rfl rfl rfl rfl rfl rfl rfl) (by omega) (by omega)
  · rw [if_neg c5]
    exact PI_mono h (by omega) (by omega)
theorem PI_under {B N : Int} {P : Pt} {L : Lw} {k m f : Int32} {ch : Option (Nat → Int32)} (hB : PB (B + 2970) (N + 10)) (hB0 : 0 ≤ B) (hN : 0 ≤ N) (h : PI B N P) (ha : okA k m f) (hc : ∀ c, ch = some c → okC c) : PI (B + 2970) (N + 10) (underF L k m f ch P) := by
  have h1 := PI_act (by unfold PB at hB ⊢; omega) hB0 h ha hc
  have hm := mins_bd (k := k) ha.2.1
  have h2 := PI_iter (L := L) (st := stirF k) (minsF k m).toNatClampNeg (by unfold PB at hB ⊢; omega) hN h1
  exact PI_mono h2 (by omega) (by omega)
theorem eq_sub0 {x d : Int32} (hx : 0 ≤ x.toInt) (hd : 0 ≤ d.toInt) : (if d ≤ x then x - d else 0) = (if 0 < x - d then x - d else 0) := by
  have hb := ib x
  have hb2 := ib d
  have e : (x - d).toInt = x.toInt - d.toInt := isu (by omega) (by omega)
  have z := z0'
  by_cases c : d ≤ x
  · rw [if_pos c]
    have c' := il.mp c
    by_cases c2 : 0 < x - d
    · rw [if_pos c2]
    · rw [if_neg c2]
      have : ¬ (0 : Int32).toInt < (x - d).toInt := fun q => c2 (ilt.mpr q)
      exact ieq.mpr (by omega)
  · rw [if_neg c]
    have c' : ¬ d.toInt ≤ x.toInt := fun q => c (il.mpr q)
    rw [if_neg (fun q => c' (by have := ilt.mp q; omega))]
theorem eq_cool {x d : Int32} (hx : 0 ≤ x.toInt ∧ x.toInt ≤ 120) (hd : 0 ≤ d.toInt) : heldF (x - d) 120 = (if 0 < x - d then x - d else 0) := by
  have hb2 := ib d
  have e : (x - d).toInt = x.toInt - d.toInt := isu (by omega) (by omega)
  have z := z0'
  have e120 : (120 : Int32).toInt = 120 := by decide
  unfold heldF
  rw [if_pos (il.mpr (by omega) : x - d ≤ 120)]
  by_cases c : 0 < x - d
  · rw [if_pos c, if_pos (il.mpr (by have := ilt.mp c; omega))]
  · rw [if_neg c]
    have c' : ¬ (0 : Int32).toInt < (x - d).toInt := fun q => c (ilt.mpr q)
    by_cases c2 : 0 ≤ x - d
    · rw [if_pos c2]
      have := il.mp c2
      exact ieq.mpr (by omega)
    · rw [if_neg c2]
theorem eq_starch {x m : Int32} (hx : 0 ≤ x.toInt ∧ x.toInt ≤ 99) (hm : 0 ≤ m.toInt ∧ m.toInt ≤ 9) : heldF (x + m) 99 = (if x + m < 99 then x + m else 99) := by
  have e : (x + m).toInt = x.toInt + m.toInt := ia (by omega) (by omega)
  have z := z0'
  have e99 : (99 : Int32).toInt = 99 := by decide
  unfold heldF
  rw [if_pos (il.mpr (by omega) : 0 ≤ x + m)]
  by_cases c : x + m < 99
  · rw [if_pos c, if_pos (il.mpr (by have := ilt.mp c; omega))]
  · rw [if_neg c]
    have c' : ¬ (x + m).toInt < (99 : Int32).toInt := fun q => c (ilt.mpr q)
    by_cases c2 : x + m ≤ 99
    · rw [if_pos c2]
      have := il.mp c2
      exact ieq.mpr (by omega)
    · rw [if_neg c2]
