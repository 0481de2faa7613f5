theorem gp3 {σ : St} {o : Nat} {P : Pt} {f : Nat → Int32} : gi (pu σ o P f) o 3 = P.1 3 := gi_pu_o (by decide)
theorem pu3 {σ : St} {o : Nat} {P : Pt} {f : Nat → Int32} {v : Int32} : si (pu σ o P f) o 3 v = pu σ o (up P 3 v) f := pu_up (by decide)
theorem gp4 {σ : St} {o : Nat} {P : Pt} {f : Nat → Int32} : gi (pu σ o P f) o 4 = P.1 4 := gi_pu_o (by decide)
theorem pu4 {σ : St} {o : Nat} {P : Pt} {f : Nat → Int32} {v : Int32} : si (pu σ o P f) o 4 v = pu σ o (up P 4 v) f := pu_up (by decide)
theorem gp5 {σ : St} {o : Nat} {P : Pt} {f : Nat → Int32} : gi (pu σ o P f) o 5 = P.1 5 := gi_pu_o (by decide)
theorem pu5 {σ : St} {o : Nat} {P : Pt} {f : Nat → Int32} {v : Int32} : si (pu σ o P f) o 5 v = pu σ o (up P 5 v) f := pu_up (by decide)
theorem gp6 {σ : St} {o : Nat} {P : Pt} {f : Nat → Int32} : gi (pu σ o P f) o 6 = P.1 6 := gi_pu_o (by decide)
theorem pu6 {σ : St} {o : Nat} {P : Pt} {f : Nat → Int32} {v : Int32} : si (pu σ o P f) o 6 v = pu σ o (up P 6 v) f := pu_up (by decide)
theorem gp7 {σ : St} {o : Nat} {P : Pt} {f : Nat → Int32} : gi (pu σ o P f) o 7 = P.1 7 := gi_pu_o (by decide)
theorem pu7 {σ : St} {o : Nat} {P : Pt} {f : Nat → Int32} {v : Int32} : si (pu σ o P f) o 7 v = pu σ o (up P 7 v) f := pu_up (by decide)
theorem gp8 {σ : St} {o : Nat} {P : Pt} {f : Nat → Int32} : gi (pu σ o P f) o 8 = P.1 8 := gi_pu_o (by decide)
theorem pu8 {σ : St} {o : Nat} {P : Pt} {f : Nat → Int32} {v : Int32} : si (pu σ o P f) o 8 v = pu σ o (up P 8 v) f := pu_up (by decide)
theorem gp9 {σ : St} {o : Nat} {P : Pt} {f : Nat → Int32} : gi (pu σ o P f) o 9 = P.1 9 := gi_pu_o (by decide)
theorem pu9 {σ : St} {o : Nat} {P : Pt} {f : Nat → Int32} {v : Int32} : si (pu σ o P f) o 9 v = pu σ o (up P 9 v) f := pu_up (by decide)
theorem gp10 {σ : St} {o : Nat} {P : Pt} {f : Nat → Int32} : gi (pu σ o P f) o 10 = P.1 10 := gi_pu_o (by decide)
theorem pu10 {σ : St} {o : Nat} {P : Pt} {f : Nat → Int32} {v : Int32} : si (pu σ o P f) o 10 v = pu σ o (up P 10 v) f := pu_up (by decide)
theorem gp11 {σ : St} {o : Nat} {P : Pt} {f : Nat → Int32} : gi (pu σ o P f) o 11 = P.1 11 := gi_pu_o (by decide)
theorem pu11 {σ : St} {o : Nat} {P : Pt} {f : Nat → Int32} {v : Int32} : si (pu σ o P f) o 11 v = pu σ o (up P 11 v) f := pu_up (by decide)
theorem gp12 {σ : St} {o : Nat} {P : Pt} {f : Nat → Int32} : gi (pu σ o P f) o 12 = P.1 12 := gi_pu_o (by decide)
theorem pu12 {σ : St} {o : Nat} {P : Pt} {f : Nat → Int32} {v : Int32} : si (pu σ o P f) o 12 v = pu σ o (up P 12 v) f := pu_up (by decide)
theorem gp13 {σ : St} {o : Nat} {P : Pt} {f : Nat → Int32} : gi (pu σ o P f) o 13 = P.1 13 := gi_pu_o (by decide)
theorem pu13 {σ : St} {o : Nat} {P : Pt} {f : Nat → Int32} {v : Int32} : si (pu σ o P f) o 13 v = pu σ o (up P 13 v) f := pu_up (by decide)
theorem gp14 {σ : St} {o : Nat} {P : Pt} {f : Nat → Int32} : gi (pu σ o P f) o 14 = P.1 14 := gi_pu_o (by decide)
theorem pu14 {σ : St} {o : Nat} {P : Pt} {f : Nat → Int32} {v : Int32} : si (pu σ o P f) o 14 v = pu σ o (up P 14 v) f := pu_up (by decide)
theorem gp15 {σ : St} {o : Nat} {P : Pt} {f : Nat → Int32} : gi (pu σ o P f) o 15 = P.1 15 := gi_pu_o (by decide)
theorem pu15 {σ : St} {o : Nat} {P : Pt} {f : Nat → Int32} {v : Int32} : si (pu σ o P f) o 15 v = pu σ o (up P 15 v) f := pu_up (by decide)
theorem gp16 {σ : St} {o : Nat} {P : Pt} {f : Nat → Int32} : gi (pu σ o P f) o 16 = P.1 16 := gi_pu_o (by decide)
theorem pu16 {σ : St} {o : Nat} {P : Pt} {f : Nat → Int32} {v : Int32} : si (pu σ o P f) o 16 v = pu σ o (up P 16 v) f := pu_up (by decide)
section CPOT
variable {M : Nat} {post : St → Prop} {posti : Int32 → St → Prop} {σ : St} {o : Nat} {P : Pt} {f : Nat → Int32}
theorem c_beat (hk : kdC o = 3 ∧ o < M) {a : Int32} (h : post (pu σ o (beatF a P) f)) : w_X3_beat M post o a (pu σ o P f) := by
  unfold w_X3_beat
  refine ⟨hk, ?_⟩
  intro x1 e1 x2 e2 σ3 e3 σ4 e4 x5 e5 σ6 e6
  subst e1 e2 e3 e4 e5 e6
  try simp only [gp3, gp4, gp5, gp6, gp7, gp8, gp9, gp10, gp11, gp12, gp13, gp14, gp15, gp16, pu3, pu4, pu5, pu6, pu7, pu8, pu9, pu10, pu11, pu12, pu13, pu14, pu15, pu16, up_1, up_2, gl_pu, pu_sl, pu_ss, gi_pu_s, gr_pu, gz_pu, reduceIte, Nat.reduceEqDiff]
  exact h
theorem c_pour (hk : kdC o = 3 ∧ o < M) {a b : Int32} (h : post (pu σ o (pourF a b P) f)) : w_X3_pourIn M post o a b (pu σ o P f) := by
  unfold w_X3_pourIn
  refine ⟨hk, ?_⟩
  intro x1 e1 σ2 e2 x3 e3 x4 e4 σ5 e5 x6 e6 σ7 e7
  subst e1 e2 e3 e4 e5 e6 e7
  try simp only [gp3, gp4, gp5, gp6, gp7, gp8, gp9, gp10, gp11, gp12, gp13, gp14, gp15, gp16, pu3, pu4, pu5, pu6, pu7, pu8, pu9, pu10, pu11, pu12, pu13, pu14, pu15, pu16, up_1, up_2, gl_pu, pu_sl, pu_ss, gi_pu_s, gr_pu, gz_pu, reduceIte, Nat.reduceEqDiff]
  exact h
theorem c_settle (hk : kdC o = 3 ∧ o < M) (h : post (pu σ o (settleF P) f)) : w_X3_settle M post o (pu σ o P f) := by
  unfold w_X3_settle
  refine ⟨hk, ?_⟩
  intro x1 e1 σ2 e2 x3 e3 σ4 e4
  subst e1 e2 e3 e4
  try simp only [gp3, gp4, gp5, gp6, gp7, gp8, gp9, gp10, gp11, gp12, gp13, gp14, gp15, gp16, pu3, pu4, pu5, pu6, pu7, pu8, pu9, pu10, pu11, pu12, pu13, pu14, pu15, pu16, up_1, up_2, gl_pu, pu_sl, pu_ss, gi_pu_s, gr_pu, gz_pu, reduceIte, Nat.reduceEqDiff]
  refine ⟨fun c => ?_, fun c => ?_⟩
  · have e : settleF P = up (up P 10 (P.1 10 - P.1 10 / 2)) 11 (P.1 11 + P.1 10 / 2) := by unfold settleF; rw [if_pos c]
    rw [e] at h
    exact h
  · intro x6 e6 σ7 e7
    subst e6 e7
    try simp only [gp3, gp4, gp5, gp6, gp7, gp8, gp9, gp10, gp11, gp12, gp13, gp14, gp15, gp16, pu3, pu4, pu5, pu6, pu7, pu8, pu9, pu10, pu11, pu12, pu13, pu14, pu15, pu16, up_1, up_2, gl_pu, pu_sl, pu_ss, gi_pu_s, gr_pu, gz_pu, reduceIte, Nat.reduceEqDiff]
    have e : settleF P = up (up (up P 10 (P.1 10 - P.1 10 / 2)) 11 (P.1 11 + P.1 10 / 2)) 13 (P.1 13 + (1 + P.1 7 / 50)) := by unfold settleF; rw [if_neg c]
    rw [e] at h
    exact h
theorem lg_cmp0 (x : Int64) : lg_cmp x 0 = 0 ↔ x = 0 := by
  unfold lg_cmp
  split
  · rename_i c; constructor
    · intro h; exact absurd h (by decide)
    · intro h; rw [h] at c; exact absurd c (by decide)
  · split
    · rename_i c; exact ⟨fun _ => c, fun _ => rfl⟩
    · rename_i c; exact ⟨fun h => absurd h (by decide), fun h => absurd h c⟩
theorem c_flicker (hk : kdC o = 3 ∧ o < M) (h : posti (drawF P) (pu σ o (P.1, lotF P) f)) : w_X3_flicker M posti o (pu σ o P f) := by
  unfold w_X3_flicker
  refine ⟨hk, ?_⟩
  try simp only [gp3, gp4, gp5, gp6, gp7, gp8, gp9, gp10, gp11, gp12, gp13, gp14, gp15, gp16, pu3, pu4, pu5, pu6, pu7, pu8, pu9, pu10, pu11, pu12, pu13, pu14, pu15, pu16, up_1, up_2, gl_pu, pu_sl, pu_ss, gi_pu_s, gr_pu, gz_pu, reduceIte, Nat.reduceEqDiff]
  refine ⟨fun c => ?_, fun c => ?_⟩
  · have c := (lg_cmp0 _).mp c
    have e1 : drawF P = 0 := by unfold drawF; rw [if_pos c]
    have e2 : lotF P = P.2 := by unfold lotF; rw [if_pos c, c]
    rw [e1, e2] at h
    exact h
  · have c : ¬ P.2 = 0 := fun q => c ((lg_cmp0 _).mpr q)
    intro y2 e2 σ3 e3 y4 e4
    subst e2 e3 e4
    try simp only [gp3, gp4, gp5, gp6, gp7, gp8, gp9, gp10, gp11, gp12, gp13, gp14, gp15, gp16, pu3, pu4, pu5, pu6, pu7, pu8, pu9, pu10, pu11, pu12, pu13, pu14, pu15, pu16, up_1, up_2, gl_pu, pu_sl, pu_ss, gi_pu_s, gr_pu, gz_pu, reduceIte, Nat.reduceEqDiff]
    have e1 : drawF P = (nx P.2 - nx P.2 / 9 * 9).toInt32 - 4 := by unfold drawF; rw [if_neg c]
    have e2 : lotF P = nx P.2 := by unfold lotF; rw [if_neg c]
    rw [e1, e2] at h
    exact h
theorem c_thick (hk : kdC o = 3 ∧ o < M) (h : posti (thickF P) (pu σ o P f)) : w_X3_thickness M posti o (pu σ o P f) := by
  unfold w_X3_thickness
  refine ⟨hk, ?_⟩
  intro x1 e1 x2 e2
  subst e1 e2
  try simp only [gp3, gp4, gp5, gp6, gp7, gp8, gp9, gp10, gp11, gp12, gp13, gp14, gp15, gp16, pu3, pu4, pu5, pu6, pu7, pu8, pu9, pu10, pu11, pu12, pu13, pu14, pu15, pu16, up_1, up_2, gl_pu, pu_sl, pu_ss, gi_pu_s, gr_pu, gz_pu, reduceIte, Nat.reduceEqDiff]
  refine ⟨?_, h⟩
  intro c
  split at c
  · rename_i q; rw [c] at q; exact absurd q (by decide)
  · exact absurd c (by decide)
theorem c_holds (hk : kdC o = 3 ∧ o < M) (h : posti (holdF P) (pu σ o P f)) : w_X3_holdsNow M posti o (pu σ o P f) := by
  unfold w_X3_holdsNow
  refine ⟨hk, ?_⟩
  try simp only [gp3, gp4, gp5, gp6, gp7, gp8, gp9, gp10, gp11, gp12, gp13, gp14, gp15, gp16, pu3, pu4, pu5, pu6, pu7, pu8, pu9, pu10, pu11, pu12, pu13, pu14, pu15, pu16, up_1, up_2, gl_pu, pu_sl, pu_ss, gi_pu_s, gr_pu, gz_pu, reduceIte, Nat.reduceEqDiff]
  refine ⟨fun c => ?_, fun c => ⟨fun d => ?_, fun d => ?_⟩⟩
  · have e : holdF P = 1 := by unfold holdF; rw [if_pos c]
    rw [e] at h; exact h
  · have e : holdF P = 0 := by unfold holdF; rw [if_neg c, if_pos d]
    rw [e] at h; exact h
  · have e : holdF P = 1 := by unfold holdF; rw [if_neg c, if_neg d]
    rw [e] at h; exact h
theorem c_begin (hk : kdC o = 3 ∧ o < M) {a b c : Int32} {q : Option Nat} (h : post (pu (sr σ o 1 q) o (startF a b c) f)) : w_X3_begin M post o a b c q (pu σ o P f) := by
  unfold w_X3_begin
  refine ⟨hk, ?_⟩
  intro σ1 e1 σ2 e2 σ3 e3 σ4 e4 σ5 e5 σ6 e6 σ7 e7 σ8 e8 σ9 e9 σ10 e10 σ11 e11 σ12 e12 σ13 e13 σ14 e14 σ15 e15 σ16 e16
  subst e1 e2 e3 e4 e5 e6 e7 e8 e9 e10 e11 e12 e13 e14 e15 e16
  have e : sr (pu σ o P f) o 1 q = pu (sr σ o 1 q) o P f := rfl
  rw [e]
  try simp only [gp3, gp4, gp5, gp6, gp7, gp8, gp9, gp10, gp11, gp12, gp13, gp14, gp15, gp16, pu3, pu4, pu5, pu6, pu7, pu8, pu9, pu10, pu11, pu12, pu13, pu14, pu15, pu16, up_1, up_2, gl_pu, pu_sl, pu_ss, gi_pu_s, gr_pu, gz_pu, reduceIte, Nat.reduceEqDiff]
  refine (congrArg post (pu_congr ?_)).mp h
  exact ⟨rfl, rfl, rfl, rfl, rfl, rfl, rfl, rfl, rfl, rfl, rfl, rfl, rfl, rfl, rfl⟩
end CPOT
