/-! the reference's state in its normal form -/
def pm (k : Nat) : Nat := if k = 0 then 7 else if k = 1 then 8 else if k = 2 then 9 else if k = 3 then 10 else if k = 4 then 11 else if k = 5 then 4 else if k = 6 then 5 else if k = 7 then 12 else if k = 8 then 6 else if k = 9 then 14 else if k = 10 then 13 else if k = 11 then 15 else if k = 12 then 16 else 3
def mu (σ : St) (P : Pt) (x : Int64) (hm : Int32) (g h : Nat → Int32) : St :=
  (fun a k => if a = 13 then (if k < 14 then P.1 (pm k) else σ.1 13 k) else if a = 8 then g k else if a = 9 then h k else if a = 0 then (if k = 26 then (if P.2 = 0 then 0 else 1) else if k = 28 then hm else σ.1 0 k) else σ.1 a k, fun a => if a = 0 then (if P.2 = 0 then x else nx P.2) else σ.2.1 a, σ.2.2)
theorem gi_mu {σ : St} {P : Pt} {x : Int64} {hm : Int32} {g h : Nat → Int32} (a k : Nat) : gi (mu σ P x hm g h) a k = if a = 13 then (if k < 14 then P.1 (pm k) else gi σ 13 k) else if a = 8 then g k else if a = 9 then h k else if a = 0 then (if k = 26 then (if P.2 = 0 then 0 else 1) else if k = 28 then hm else gi σ 0 k) else gi σ a k := rfl
theorem gl_mu {σ : St} {P : Pt} {x : Int64} {hm : Int32} {g h : Nat → Int32} (a : Nat) : gl (mu σ P x hm g h) a = if a = 0 then (if P.2 = 0 then x else nx P.2) else gl σ a := rfl
theorem pm_inj : ∀ j, j < 14 → ∀ k, k < 14 → pm j = pm k → j = k := by decide
theorem pm_in : ∀ k, k < 14 → 3 ≤ pm k ∧ pm k < 17 := by decide
theorem mm_up {σ : St} {P : Pt} {x : Int64} {hm : Int32} {g h : Nat → Int32} {k : Nat} {v : Int32} (hk : k < 14) : si (mu σ P x hm g h) 13 k v = mu σ (up P (pm k) v) x hm g h := by
  refine St_ext (fun a j => ?_) (fun a => rfl) rfl
  rw [gi_si', gi_mu, gi_mu, up_2]
  by_cases h13 : a = 13
  · rw [if_pos h13, if_pos h13, if_pos h13, up_1]
    by_cases hj : j < 14
    · rw [if_pos hj, if_pos hj]
      by_cases e : j = k
      · rw [if_pos e, if_pos (by rw [e])]
      · rw [if_neg e, if_neg (fun q => e (pm_inj j hj k hk q))]
    · rw [if_neg hj, if_neg hj, if_neg (by omega)]
  · rw [if_neg h13, if_neg h13, if_neg h13]
theorem mu_22 {σ : St} {P : Pt} {x : Int64} {hm : Int32} {g h : Nat → Int32} : (mu σ P x hm g h).2.2 = σ.2.2 := rfl
theorem mu_congr {σ : St} {P Q : Pt} {x : Int64} {hm : Int32} {g h : Nat → Int32} (hp : pEq P Q) : mu σ P x hm g h = mu σ Q x hm g h := by
  have e2 : P.2 = Q.2 := hp.1
  refine St_ext (fun a j => ?_) (fun a => ?_) (mu_22.trans mu_22.symm)
  · rw [gi_mu, gi_mu, e2]
    by_cases hj : j < 14
    · rw [hp.at_ (pm_in j hj)]
    · rw [if_neg hj, if_neg hj]
  · rw [gl_mu, gl_mu, e2]
theorem gm0 {σ : St} {P : Pt} {x : Int64} {hm : Int32} {g h : Nat → Int32} : gi (mu σ P x hm g h) 13 0 = P.1 7 := rfl
theorem mm0 {σ : St} {P : Pt} {x : Int64} {hm : Int32} {g h : Nat → Int32} {v : Int32} : si (mu σ P x hm g h) 13 0 v = mu σ (up P 7 v) x hm g h := mm_up (by decide)
theorem gm1 {σ : St} {P : Pt} {x : Int64} {hm : Int32} {g h : Nat → Int32} : gi (mu σ P x hm g h) 13 1 = P.1 8 := rfl
theorem mm1 {σ : St} {P : Pt} {x : Int64} {hm : Int32} {g h : Nat → Int32} {v : Int32} : si (mu σ P x hm g h) 13 1 v = mu σ (up P 8 v) x hm g h := mm_up (by decide)
theorem gm2 {σ : St} {P : Pt} {x : Int64} {hm : Int32} {g h : Nat → Int32} : gi (mu σ P x hm g h) 13 2 = P.1 9 := rfl
theorem mm2 {σ : St} {P : Pt} {x : Int64} {hm : Int32} {g h : Nat → Int32} {v : Int32} : si (mu σ P x hm g h) 13 2 v = mu σ (up P 9 v) x hm g h := mm_up (by decide)
theorem gm3 {σ : St} {P : Pt} {x : Int64} {hm : Int32} {g h : Nat → Int32} : gi (mu σ P x hm g h) 13 3 = P.1 10 := rfl
theorem mm3 {σ : St} {P : Pt} {x : Int64} {hm : Int32} {g h : Nat → Int32} {v : Int32} : si (mu σ P x hm g h) 13 3 v = mu σ (up P 10 v) x hm g h := mm_up (by decide)
theorem gm4 {σ : St} {P : Pt} {x : Int64} {hm : Int32} {g h : Nat → Int32} : gi (mu σ P x hm g h) 13 4 = P.1 11 := rfl
theorem mm4 {σ : St} {P : Pt} {x : Int64} {hm : Int32} {g h : Nat → Int32} {v : Int32} : si (mu σ P x hm g h) 13 4 v = mu σ (up P 11 v) x hm g h := mm_up (by decide)
theorem gm5 {σ : St} {P : Pt} {x : Int64} {hm : Int32} {g h : Nat → Int32} : gi (mu σ P x hm g h) 13 5 = P.1 4 := rfl
theorem mm5 {σ : St} {P : Pt} {x : Int64} {hm : Int32} {g h : Nat → Int32} {v : Int32} : si (mu σ P x hm g h) 13 5 v = mu σ (up P 4 v) x hm g h := mm_up (by decide)
theorem gm6 {σ : St} {P : Pt} {x : Int64} {hm : Int32} {g h : Nat → Int32} : gi (mu σ P x hm g h) 13 6 = P.1 5 := rfl
theorem mm6 {σ : St} {P : Pt} {x : Int64} {hm : Int32} {g h : Nat → Int32} {v : Int32} : si (mu σ P x hm g h) 13 6 v = mu σ (up P 5 v) x hm g h := mm_up (by decide)
theorem gm7 {σ : St} {P : Pt} {x : Int64} {hm : Int32} {g h : Nat → Int32} : gi (mu σ P x hm g h) 13 7 = P.1 12 := rfl
theorem mm7 {σ : St} {P : Pt} {x : Int64} {hm : Int32} {g h : Nat → Int32} {v : Int32} : si (mu σ P x hm g h) 13 7 v = mu σ (up P 12 v) x hm g h := mm_up (by decide)
theorem gm8 {σ : St} {P : Pt} {x : Int64} {hm : Int32} {g h : Nat → Int32} : gi (mu σ P x hm g h) 13 8 = P.1 6 := rfl
theorem mm8 {σ : St} {P : Pt} {x : Int64} {hm : Int32} {g h : Nat → Int32} {v : Int32} : si (mu σ P x hm g h) 13 8 v = mu σ (up P 6 v) x hm g h := mm_up (by decide)
theorem gm9 {σ : St} {P : Pt} {x : Int64} {hm : Int32} {g h : Nat → Int32} : gi (mu σ P x hm g h) 13 9 = P.1 14 := rfl
theorem mm9 {σ : St} {P : Pt} {x : Int64} {hm : Int32} {g h : Nat → Int32} {v : Int32} : si (mu σ P x hm g h) 13 9 v = mu σ (up P 14 v) x hm g h := mm_up (by decide)
theorem gm10 {σ : St} {P : Pt} {x : Int64} {hm : Int32} {g h : Nat → Int32} : gi (mu σ P x hm g h) 13 10 = P.1 13 := rfl
theorem mm10 {σ : St} {P : Pt} {x : Int64} {hm : Int32} {g h : Nat → Int32} {v : Int32} : si (mu σ P x hm g h) 13 10 v = mu σ (up P 13 v) x hm g h := mm_up (by decide)
theorem gm11 {σ : St} {P : Pt} {x : Int64} {hm : Int32} {g h : Nat → Int32} : gi (mu σ P x hm g h) 13 11 = P.1 15 := rfl
theorem mm11 {σ : St} {P : Pt} {x : Int64} {hm : Int32} {g h : Nat → Int32} {v : Int32} : si (mu σ P x hm g h) 13 11 v = mu σ (up P 15 v) x hm g h := mm_up (by decide)
theorem gm12 {σ : St} {P : Pt} {x : Int64} {hm : Int32} {g h : Nat → Int32} : gi (mu σ P x hm g h) 13 12 = P.1 16 := rfl
theorem mm12 {σ : St} {P : Pt} {x : Int64} {hm : Int32} {g h : Nat → Int32} {v : Int32} : si (mu σ P x hm g h) 13 12 v = mu σ (up P 16 v) x hm g h := mm_up (by decide)
theorem gm13 {σ : St} {P : Pt} {x : Int64} {hm : Int32} {g h : Nat → Int32} : gi (mu σ P x hm g h) 13 13 = P.1 3 := rfl
theorem mm13 {σ : St} {P : Pt} {x : Int64} {hm : Int32} {g h : Nat → Int32} {v : Int32} : si (mu σ P x hm g h) 13 13 v = mu σ (up P 3 v) x hm g h := mm_up (by decide)
theorem gmr1 {σ : St} {P : Pt} {x : Int64} {hm : Int32} {g h : Nat → Int32} {k : Nat} : gi (mu σ P x hm g h) 1 k = gi σ 1 k := rfl
theorem gmr2 {σ : St} {P : Pt} {x : Int64} {hm : Int32} {g h : Nat → Int32} {k : Nat} : gi (mu σ P x hm g h) 2 k = gi σ 2 k := rfl
theorem gmr3 {σ : St} {P : Pt} {x : Int64} {hm : Int32} {g h : Nat → Int32} {k : Nat} : gi (mu σ P x hm g h) 3 k = gi σ 3 k := rfl
theorem gmr4 {σ : St} {P : Pt} {x : Int64} {hm : Int32} {g h : Nat → Int32} {k : Nat} : gi (mu σ P x hm g h) 4 k = gi σ 4 k := rfl
theorem gmr5 {σ : St} {P : Pt} {x : Int64} {hm : Int32} {g h : Nat → Int32} {k : Nat} : gi (mu σ P x hm g h) 5 k = gi σ 5 k := rfl
theorem gmr6 {σ : St} {P : Pt} {x : Int64} {hm : Int32} {g h : Nat → Int32} {k : Nat} : gi (mu σ P x hm g h) 6 k = gi σ 6 k := rfl
theorem gmr7 {σ : St} {P : Pt} {x : Int64} {hm : Int32} {g h : Nat → Int32} {k : Nat} : gi (mu σ P x hm g h) 7 k = gi σ 7 k := rfl
theorem gmr10 {σ : St} {P : Pt} {x : Int64} {hm : Int32} {g h : Nat → Int32} {k : Nat} : gi (mu σ P x hm g h) 10 k = gi σ 10 k := rfl
theorem gmr11 {σ : St} {P : Pt} {x : Int64} {hm : Int32} {g h : Nat → Int32} {k : Nat} : gi (mu σ P x hm g h) 11 k = gi σ 11 k := rfl
theorem gmr12 {σ : St} {P : Pt} {x : Int64} {hm : Int32} {g h : Nat → Int32} {k : Nat} : gi (mu σ P x hm g h) 12 k = gi σ 12 k := rfl
theorem gmr14 {σ : St} {P : Pt} {x : Int64} {hm : Int32} {g h : Nat → Int32} {k : Nat} : gi (mu σ P x hm g h) 14 k = gi σ 14 k := rfl
theorem gmr15 {σ : St} {P : Pt} {x : Int64} {hm : Int32} {g h : Nat → Int32} {k : Nat} : gi (mu σ P x hm g h) 15 k = gi σ 15 k := rfl
theorem gmr16 {σ : St} {P : Pt} {x : Int64} {hm : Int32} {g h : Nat → Int32} {k : Nat} : gi (mu σ P x hm g h) 16 k = gi σ 16 k := rfl
theorem gmr17 {σ : St} {P : Pt} {x : Int64} {hm : Int32} {g h : Nat → Int32} {k : Nat} : gi (mu σ P x hm g h) 17 k = gi σ 17 k := rfl
theorem gmr18 {σ : St} {P : Pt} {x : Int64} {hm : Int32} {g h : Nat → Int32} {k : Nat} : gi (mu σ P x hm g h) 18 k = gi σ 18 k := rfl
theorem gmr19 {σ : St} {P : Pt} {x : Int64} {hm : Int32} {g h : Nat → Int32} {k : Nat} : gi (mu σ P x hm g h) 19 k = gi σ 19 k := rfl
theorem gmz0 {σ : St} {P : Pt} {x : Int64} {hm : Int32} {g h : Nat → Int32} : gi (mu σ P x hm g h) 0 0 = gi σ 0 0 := rfl
theorem gmz4 {σ : St} {P : Pt} {x : Int64} {hm : Int32} {g h : Nat → Int32} : gi (mu σ P x hm g h) 0 4 = gi σ 0 4 := rfl
theorem gmz5 {σ : St} {P : Pt} {x : Int64} {hm : Int32} {g h : Nat → Int32} : gi (mu σ P x hm g h) 0 5 = gi σ 0 5 := rfl
theorem gmz6 {σ : St} {P : Pt} {x : Int64} {hm : Int32} {g h : Nat → Int32} : gi (mu σ P x hm g h) 0 6 = gi σ 0 6 := rfl
theorem gmz21 {σ : St} {P : Pt} {x : Int64} {hm : Int32} {g h : Nat → Int32} : gi (mu σ P x hm g h) 0 21 = gi σ 0 21 := rfl
theorem gmz29 {σ : St} {P : Pt} {x : Int64} {hm : Int32} {g h : Nat → Int32} : gi (mu σ P x hm g h) 0 29 = gi σ 0 29 := rfl
theorem gmz30 {σ : St} {P : Pt} {x : Int64} {hm : Int32} {g h : Nat → Int32} : gi (mu σ P x hm g h) 0 30 = gi σ 0 30 := rfl
theorem gmz31 {σ : St} {P : Pt} {x : Int64} {hm : Int32} {g h : Nat → Int32} : gi (mu σ P x hm g h) 0 31 = gi σ 0 31 := rfl
theorem gmp8 {σ : St} {P : Pt} {x : Int64} {hm : Int32} {g h : Nat → Int32} {k : Nat} : gi (mu σ P x hm g h) 8 k = g k := rfl
theorem gmp9 {σ : St} {P : Pt} {x : Int64} {hm : Int32} {g h : Nat → Int32} {k : Nat} : gi (mu σ P x hm g h) 9 k = h k := rfl
theorem gm28 {σ : St} {P : Pt} {x : Int64} {hm : Int32} {g h : Nat → Int32} : gi (mu σ P x hm g h) 0 28 = hm := rfl
theorem gmd {σ : St} {P : Pt} {x : Int64} {hm : Int32} {g h : Nat → Int32} : gi (mu σ P x hm g h) 0 26 = if P.2 = 0 then 0 else 1 := rfl
theorem mmp8 {σ : St} {P : Pt} {x : Int64} {hm : Int32} {g h : Nat → Int32} {k : Nat} {v : Int32} : si (mu σ P x hm g h) 8 k v = mu σ P x hm (upN g k v) h := by
  refine St_ext (fun a j => ?_) (fun a => rfl) rfl
  rw [gi_si', gi_mu, gi_mu]
  unfold upN
  by_cases e : a = 8
  · subst e; rfl
  · rw [if_neg e, if_neg e, if_neg e]
theorem mmp9 {σ : St} {P : Pt} {x : Int64} {hm : Int32} {g h : Nat → Int32} {k : Nat} {v : Int32} : si (mu σ P x hm g h) 9 k v = mu σ P x hm g (upN h k v) := by
  refine St_ext (fun a j => ?_) (fun a => rfl) rfl
  rw [gi_si', gi_mu, gi_mu]
  unfold upN
  by_cases e : a = 9
  · subst e; rfl
  · rw [if_neg e, if_neg e, if_neg e]
theorem mm28 {σ : St} {P : Pt} {x : Int64} {hm : Int32} {g h : Nat → Int32} {v : Int32} : si (mu σ P x hm g h) 0 28 v = mu σ P x v g h := by
  refine St_ext (fun a j => ?_) (fun a => rfl) rfl
  rw [gi_si', gi_mu, gi_mu]
  by_cases e : a = 0
  · subst e
    show (if j = 28 then v else if j = 26 then (if P.2 = 0 then (0 : Int32) else 1) else if j = 28 then hm else gi σ 0 j) = (if j = 26 then (if P.2 = 0 then (0 : Int32) else 1) else if j = 28 then v else gi σ 0 j)
    by_cases e2 : j = 28
    · rw [if_pos e2, if_pos e2, if_neg (by omega)]
    · rw [if_neg e2, if_neg e2, if_neg e2]
  · rw [if_neg e, if_neg e]
    by_cases h13 : a = 13
    · rw [if_pos h13, if_pos h13]
    · rw [if_neg h13, if_neg h13, if_neg e]
/-- the lots -/
def okl (l : Int64) : Prop := l = 0 ∨ (0 < l.toInt ∧ l.toInt < 2147483647)
theorem lb (x : Int64) : -9223372036854775808 ≤ x.toInt ∧ x.toInt < 9223372036854775808 := ⟨Int64.le_toInt x, Int64.toInt_lt x⟩
theorem lb_bmod {z : Int} (h1 : -9223372036854775808 ≤ z) (h2 : z < 9223372036854775808) : z.bmod 18446744073709551616 = z := by
  rw [Int.bmod_def]
  omega
theorem lmul {x y : Int64} (h1 : -9223372036854775808 ≤ x.toInt * y.toInt) (h2 : x.toInt * y.toInt < 9223372036854775808) : (x * y).toInt = x.toInt * y.toInt := by
  rw [Int64.toInt_mul]; exact lb_bmod h1 h2
theorem lsub {x y : Int64} (h1 : -9223372036854775808 ≤ x.toInt - y.toInt) (h2 : x.toInt - y.toInt < 9223372036854775808) : (x - y).toInt = x.toInt - y.toInt := by
  rw [Int64.toInt_sub]; exact lb_bmod h1 h2
theorem ldv {x y : Int64} (hx : 0 ≤ x.toInt) (hy : 0 < y.toInt) : (x / y).toInt = x.toInt / y.toInt := by
  have e : (x / y).toInt = (x.toInt.tdiv y.toInt).bmod 18446744073709551616 := Int64.toInt_div x y
  have hb := lb x
  have e2 : x.toInt.tdiv y.toInt = x.toInt / y.toInt := Int.tdiv_eq_ediv_of_nonneg hx
  have h3 : 0 ≤ x.toInt / y.toInt := Int.ediv_nonneg hx (by omega)
  have h4 : x.toInt / y.toInt ≤ x.toInt := Int.ediv_le_self _ hx
  rw [e, e2, lb_bmod (by omega) (by omega)]
theorem nx_ok {l : Int64} (h : 0 < l.toInt ∧ l.toInt < 2147483647) : 0 < (nx l).toInt ∧ (nx l).toInt < 2147483647 := by
  have e1 : (48271 : Int64).toInt = 48271 := by decide
  have e2 : (2147483647 : Int64).toInt = 2147483647 := by decide
  have m : (l * 48271).toInt = l.toInt * 48271 := by rw [lmul (by rw [e1]; omega) (by rw [e1]; omega), e1]
  have d : (l * 48271 / 2147483647).toInt = l.toInt * 48271 / 2147483647 := by rw [ldv (by omega) (by decide), m, e2]
  have p : (l * 48271 / 2147483647 * 2147483647).toInt = l.toInt * 48271 / 2147483647 * 2147483647 := by rw [lmul (by rw [d, e2]; omega) (by rw [d, e2]; omega), d, e2]
  have s : (nx l).toInt = l.toInt * 48271 - l.toInt * 48271 / 2147483647 * 2147483647 := by
    unfold nx
    rw [lsub (by rw [m, p]; omega) (by rw [m, p]; omega), m, p]
  rw [s]
  generalize l.toInt = n at h ⊢
  have hne : n * 48271 % 2147483647 ≠ 0 := by
    intro q
    have q2 : (n * 48271) * 1899818559 % 2147483647 = 0 := by rw [Int.mul_emod, q, Int.zero_mul]; rfl
    omega
  omega
theorem nx_ne {l : Int64} (h : okl l) (h0 : l ≠ 0) : nx l ≠ 0 ∧ okl (nx l) := by
  rcases h with h | h
  · exact absurd h h0
  · have := nx_ok h
    refine ⟨fun e => ?_, Or.inr this⟩
    rw [e] at this
    exact absurd this.1 (by decide)
theorem okl_lotF {P : Pt} (h : okl P.2) : okl (lotF P) := by
  unfold lotF
  by_cases c : P.2 = 0
  · rw [if_pos c]; exact Or.inl rfl
  · rw [if_neg c]; exact (nx_ne h c).2
section MPOT
variable {post : St → Prop} {posti : Int32 → St → Prop} {σ : St} {P : Pt} {x : Int64} {hm : Int32} {g h : Nat → Int32}
theorem m_held {s : St} {v most : Int32} (hh : posti (heldF v most) s) : w_X7_held 20 posti v most s := by
  unfold heldF at hh
  unfold w_X7_held
  refine ⟨fun c => ⟨fun d => ?_, fun d => ?_⟩, fun c => ?_⟩
  · rw [if_pos c, if_pos d] at hh; exact hh
  · rw [if_pos c, if_neg d] at hh; exact hh
  · rw [if_neg c] at hh; exact hh
theorem m_draw (hl : okl P.2) (hh : posti (drawF P) (mu σ (P.1, lotF P) x hm g h)) : w_X7_drawsHeat 20 posti (mu σ P x hm g h) := by
  unfold w_X7_drawsHeat
  rw [gmd, gl_mu]
  unfold drawF at hh
  by_cases c : P.2 = 0
  · have e : lotF P = P.2 := by unfold lotF; rw [if_pos c, c]
    rw [if_pos c, e] at hh
    rw [if_pos c]
    exact br_t rfl hh
  · rw [if_neg c] at hh
    rw [if_neg c]
    refine br_f (by decide) (fun y2 e2 y3 e3 σ4 e4 => ?_)
    have e : lotF P = nx P.2 := by unfold lotF; rw [if_neg c]
    rw [e] at hh
    rw [if_pos rfl, if_neg c] at e2 e3
    have es : sl (mu σ P x hm g h) 0 y3 = mu σ (P.1, nx P.2) x hm g h := by
      refine St_ext (fun a j => ?_) (fun a => ?_) rfl
      · show gi (mu σ P x hm g h) a j = _
        rw [gi_mu, gi_mu, if_neg c]
        show _ = if a = 13 then _ else if a = 8 then _ else if a = 9 then _ else if a = 0 then (if j = 26 then (if nx P.2 = 0 then (0 : Int32) else 1) else _) else _
        rw [if_neg (nx_ne hl c).1]
      · rw [gl_sl', gl_mu, gl_mu]
        by_cases a0 : a = 0
        · rw [if_pos a0, if_pos a0]
          show y3 = if nx P.2 = 0 then x else nx (nx P.2)
          rw [if_neg (nx_ne hl c).1, e3]
          rfl
        · rw [if_neg a0, if_neg a0, if_neg a0]
    rw [e4, es, e2]
    exact hh
theorem m_strokes {B N : Int} (hI : PI B N P) {a : Int32} (ha : 0 ≤ a.toInt) (hh : post (mu σ (beatF a P) x hm g h)) : w_X7_strokesOf 20 post a (mu σ P x hm g h) := by
  unfold w_X7_strokesOf
  have hc : 0 ≤ (P.1 13).toInt := hI.2.2.2.2.2.1.1
  have e13 := eq_sub0 (x := P.1 13) (d := a) hc ha
  have core : ∀ r : Int32, r = beatR a P → w_X7_strokesOf_42 20 post a r (mu σ P x hm g h) := by
    intro r hr
    unfold w_X7_strokesOf_42
    intro σ1 e1 σ2 e2
    subst e1 e2
    try simp only [gm0, gm1, gm2, gm3, gm4, gm5, gm6, gm7, gm8, gm9, gm10, gm11, gm12, gm13, mm0, mm1, mm2, mm3, mm4, mm5, mm6, mm7, mm8, mm9, mm10, mm11, mm12, mm13, gmr1, gmr2, gmr3, gmr4, gmr5, gmr6, gmr7, gmr10, gmr11, gmr12, gmr14, gmr15, gmr16, gmr17, gmr18, gmr19, gmz0, gmz4, gmz5, gmz6, gmz21, gmz29, gmz30, gmz31, gmp8, gmp9, mmp8, mmp9, gm28, mm28, gmd, up_1, up_2, reduceIte, Nat.reduceEqDiff]
    unfold beatF at hh
    rw [← e13, ← hr] at hh
    refine ⟨fun c σ4 e4 => ?_, fun c σ5 e5 => ?_⟩
    · subst e4
      rw [if_pos c] at hh
      try simp only [gm0, gm1, gm2, gm3, gm4, gm5, gm6, gm7, gm8, gm9, gm10, gm11, gm12, gm13, mm0, mm1, mm2, mm3, mm4, mm5, mm6, mm7, mm8, mm9, mm10, mm11, mm12, mm13, gmr1, gmr2, gmr3, gmr4, gmr5, gmr6, gmr7, gmr10, gmr11, gmr12, gmr14, gmr15, gmr16, gmr17, gmr18, gmr19, gmz0, gmz4, gmz5, gmz6, gmz21, gmz29, gmz30, gmz31, gmp8, gmp9, mmp8, mmp9, gm28, mm28, gmd, up_1, up_2, reduceIte, Nat.reduceEqDiff]
      exact hh
    · subst e5
      rw [if_neg c] at hh
      try simp only [gm0, gm1, gm2, gm3, gm4, gm5, gm6, gm7, gm8, gm9, gm10, gm11, gm12, gm13, mm0, mm1, mm2, mm3, mm4, mm5, mm6, mm7, mm8, mm9, mm10, mm11, mm12, mm13, gmr1, gmr2, gmr3, gmr4, gmr5, gmr6, gmr7, gmr10, gmr11, gmr12, gmr14, gmr15, gmr16, gmr17, gmr18, gmr19, gmz0, gmz4, gmz5, gmz6, gmz21, gmz29, gmz30, gmz31, gmp8, gmp9, mmp8, mmp9, gm28, mm28, gmd, up_1, up_2, reduceIte, Nat.reduceEqDiff]
      exact hh
  intro x1 e1
  subst e1
  try simp only [gm0, gm1, gm2, gm3, gm4, gm5, gm6, gm7, gm8, gm9, gm10, gm11, gm12, gm13, mm0, mm1, mm2, mm3, mm4, mm5, mm6, mm7, mm8, mm9, mm10, mm11, mm12, mm13, gmr1, gmr2, gmr3, gmr4, gmr5, gmr6, gmr7, gmr10, gmr11, gmr12, gmr14, gmr15, gmr16, gmr17, gmr18, gmr19, gmz0, gmz4, gmz5, gmz6, gmz21, gmz29, gmz30, gmz31, gmp8, gmp9, mmp8, mmp9, gm28, mm28, gmd, up_1, up_2, reduceIte, Nat.reduceEqDiff]
  refine ⟨fun c => ?_, fun c => ?_⟩
  · refine core _ ?_
    unfold beatR
    by_cases d : a * ((1 + P.1 12) + P.1 8 / 20) < P.1 11
    · rw [if_pos d]
    · rw [if_neg d]
      have c' := il.mp c
      have d' : ¬ (a * ((1 + P.1 12) + P.1 8 / 20)).toInt < (P.1 11).toInt := fun q => d (ilt.mpr q)
      exact ieq.mpr (by omega)
  · refine core _ ?_
    unfold beatR
    rw [if_neg (fun q => c (il.mpr (by have := ilt.mp q; omega)))]
theorem m_pours {B N : Int} (hI : PI B N P) {a b : Int32} (ha : 0 ≤ a.toInt ∧ a.toInt ≤ 9) (hh : post (mu σ (pourF a b P) x hm g h)) : w_X7_pours 20 post a b (mu σ P x hm g h) := by
  have hc := hI.1
  have h2 := half9 (a := a) (by omega)
  have e6 := eq_cool (x := P.1 6) (d := a / 2) hc (by omega)
  have last : ∀ w s : Int32, w = (if P.1 4 + a < 9999 then P.1 4 + a else 9999) → s = (if P.1 5 + (a * b) / 4 < 99 then P.1 5 + (a * b) / 4 else 99) → w_X7_pours_76 20 post a s 6 (mu σ (up P 4 w) x hm g h) := by
    intro w s hw hs
    unfold w_X7_pours_76
    refine ⟨vp_in_nI (n := 6) (by decide) (by decide), fun σ1 e1 => ?_⟩
    rw [show (6 : Int32).toNatClampNeg = 6 from rfl] at e1
    subst e1
    try simp only [gm0, gm1, gm2, gm3, gm4, gm5, gm6, gm7, gm8, gm9, gm10, gm11, gm12, gm13, mm0, mm1, mm2, mm3, mm4, mm5, mm6, mm7, mm8, mm9, mm10, mm11, mm12, mm13, gmr1, gmr2, gmr3, gmr4, gmr5, gmr6, gmr7, gmr10, gmr11, gmr12, gmr14, gmr15, gmr16, gmr17, gmr18, gmr19, gmz0, gmz4, gmz5, gmz6, gmz21, gmz29, gmz30, gmz31, gmp8, gmp9, mmp8, mmp9, gm28, mm28, gmd, up_1, up_2, reduceIte, Nat.reduceEqDiff]
    refine m_held (fun σ4 e4 => ?_)
    rw [e6] at e4
    subst e4
    try simp only [gm0, gm1, gm2, gm3, gm4, gm5, gm6, gm7, gm8, gm9, gm10, gm11, gm12, gm13, mm0, mm1, mm2, mm3, mm4, mm5, mm6, mm7, mm8, mm9, mm10, mm11, mm12, mm13, gmr1, gmr2, gmr3, gmr4, gmr5, gmr6, gmr7, gmr10, gmr11, gmr12, gmr14, gmr15, gmr16, gmr17, gmr18, gmr19, gmz0, gmz4, gmz5, gmz6, gmz21, gmz29, gmz30, gmz31, gmp8, gmp9, mmp8, mmp9, gm28, mm28, gmd, up_1, up_2, reduceIte, Nat.reduceEqDiff]
    unfold pourF at hh
    rw [← hw, ← hs] at hh
    exact hh
  have mid : ∀ w : Int32, w = (if P.1 4 + a < 9999 then P.1 4 + a else 9999) → w_X7_pours_33 20 post a b w 5 (mu σ P x hm g h) := by
    intro w hw
    unfold w_X7_pours_33
    refine ⟨vp_in_nI (n := 5) (by decide) (by decide), fun σ1 e1 x2 e2 => ?_⟩
    rw [show (5 : Int32).toNatClampNeg = 5 from rfl] at e1
    subst e1 e2
    try simp only [gm0, gm1, gm2, gm3, gm4, gm5, gm6, gm7, gm8, gm9, gm10, gm11, gm12, gm13, mm0, mm1, mm2, mm3, mm4, mm5, mm6, mm7, mm8, mm9, mm10, mm11, mm12, mm13, gmr1, gmr2, gmr3, gmr4, gmr5, gmr6, gmr7, gmr10, gmr11, gmr12, gmr14, gmr15, gmr16, gmr17, gmr18, gmr19, gmz0, gmz4, gmz5, gmz6, gmz21, gmz29, gmz30, gmz31, gmp8, gmp9, mmp8, mmp9, gm28, mm28, gmd, up_1, up_2, reduceIte, Nat.reduceEqDiff]
    refine ⟨fun c x4 e4 => ?_, fun c => ?_⟩
    · refine last w x4 hw ?_
      rw [e4]
      by_cases d : P.1 5 + (a * b) / 4 < 99
      · rw [if_pos d]
      · rw [if_neg d]
        have c' := il.mp c
        have d' : ¬ (P.1 5 + (a * b) / 4).toInt < (99 : Int32).toInt := fun q => d (ilt.mpr q)
        exact ieq.mpr (by omega)
    · refine last w 99 hw ?_
      rw [if_neg (fun q => c (il.mpr (by have := ilt.mp q; omega)))]
  unfold w_X7_pours
  try simp only [gm0, gm1, gm2, gm3, gm4, gm5, gm6, gm7, gm8, gm9, gm10, gm11, gm12, gm13, mm0, mm1, mm2, mm3, mm4, mm5, mm6, mm7, mm8, mm9, mm10, mm11, mm12, mm13, gmr1, gmr2, gmr3, gmr4, gmr5, gmr6, gmr7, gmr10, gmr11, gmr12, gmr14, gmr15, gmr16, gmr17, gmr18, gmr19, gmz0, gmz4, gmz5, gmz6, gmz21, gmz29, gmz30, gmz31, gmp8, gmp9, mmp8, mmp9, gm28, mm28, gmd, up_1, up_2, reduceIte, Nat.reduceEqDiff]
  refine ⟨fun c => ?_, fun c => ?_⟩
  · refine mid _ ?_
    by_cases d : P.1 4 + a < 9999
    · rw [if_pos d]
    · rw [if_neg d]
      have c' := il.mp c
      have d' : ¬ (P.1 4 + a).toInt < (9999 : Int32).toInt := fun q => d (ilt.mpr q)
      exact ieq.mpr (by omega)
  · refine mid _ ?_
    rw [if_neg (fun q => c (il.mpr (by have := ilt.mp q; omega)))]
theorem m_hand {B N : Int} (hI : PI B N P) {a : Int32} (ha : 0 ≤ a.toInt) {j : Nat} (hj : j < 4) {ch : Nat → Int32} (hch : ∀ k, k < 5 → gi σ 1 (5 * j + k) = ch k) (hh : post (mu σ (throwF ch a P) x hm g h)) : w_X7_handfuls 20 post (nI j) a (mu σ P x hm g h) := by
  have hc := hI.1
  have e6 := eq_cool (x := P.1 6) (d := a) hc ha
  have k5 : (5 : Int32) * nI j = nI (5 * j) := (Int32.ofNat_mul 5 j).symm
  have k0 := hch 0 (by decide)
  have k1 := hch 1 (by decide)
  have k2 := hch 2 (by decide)
  have k3 := hch 3 (by decide)
  have n3 : nI (5 * j) + 3 = nI (5 * j + 3) := nI_add _ 3
  have n1 : nI (5 * j) + 1 = nI (5 * j + 1) := nI_add _ 1
  have n2 : nI (5 * j) + 2 = nI (5 * j + 2) := nI_add _ 2
  rw [Nat.add_zero] at k0
  unfold w_X7_handfuls
  intro σ1 e1
  subst e1
  rw [k5, n3, n1, n2, nI_clamp (by omega), nI_clamp (by omega), nI_clamp (by omega), nI_clamp (by omega)]
  try simp only [gm0, gm1, gm2, gm3, gm4, gm5, gm6, gm7, gm8, gm9, gm10, gm11, gm12, gm13, mm0, mm1, mm2, mm3, mm4, mm5, mm6, mm7, mm8, mm9, mm10, mm11, mm12, mm13, gmr1, gmr2, gmr3, gmr4, gmr5, gmr6, gmr7, gmr10, gmr11, gmr12, gmr14, gmr15, gmr16, gmr17, gmr18, gmr19, gmz0, gmz4, gmz5, gmz6, gmz21, gmz29, gmz30, gmz31, gmp8, gmp9, mmp8, mmp9, gm28, mm28, gmd, up_1, up_2, reduceIte, Nat.reduceEqDiff]
  refine ⟨vp_in_nI (by omega) (by decide), fun x2 e2 σ3 e3 => ⟨vp_in_nI (by omega) (by decide), fun x4 e4 σ5 e5 => ⟨vp_in_nI (by omega) (by decide), fun x6 e6' σ7 e7 => ⟨vp_in_nI (by omega) (by decide), fun x8 e8 σ9 e9 => ?_⟩⟩⟩⟩
  rw [k0] at e2
  subst e2 e3
  try simp only [gm0, gm1, gm2, gm3, gm4, gm5, gm6, gm7, gm8, gm9, gm10, gm11, gm12, gm13, mm0, mm1, mm2, mm3, mm4, mm5, mm6, mm7, mm8, mm9, mm10, mm11, mm12, mm13, gmr1, gmr2, gmr3, gmr4, gmr5, gmr6, gmr7, gmr10, gmr11, gmr12, gmr14, gmr15, gmr16, gmr17, gmr18, gmr19, gmz0, gmz4, gmz5, gmz6, gmz21, gmz29, gmz30, gmz31, gmp8, gmp9, mmp8, mmp9, gm28, mm28, gmd, up_1, up_2, reduceIte, Nat.reduceEqDiff] at e4 e5
  rw [k3] at e4
  subst e4 e5
  try simp only [gm0, gm1, gm2, gm3, gm4, gm5, gm6, gm7, gm8, gm9, gm10, gm11, gm12, gm13, mm0, mm1, mm2, mm3, mm4, mm5, mm6, mm7, mm8, mm9, mm10, mm11, mm12, mm13, gmr1, gmr2, gmr3, gmr4, gmr5, gmr6, gmr7, gmr10, gmr11, gmr12, gmr14, gmr15, gmr16, gmr17, gmr18, gmr19, gmz0, gmz4, gmz5, gmz6, gmz21, gmz29, gmz30, gmz31, gmp8, gmp9, mmp8, mmp9, gm28, mm28, gmd, up_1, up_2, reduceIte, Nat.reduceEqDiff] at e6' e7
  rw [k1] at e6'
  subst e6' e7
  try simp only [gm0, gm1, gm2, gm3, gm4, gm5, gm6, gm7, gm8, gm9, gm10, gm11, gm12, gm13, mm0, mm1, mm2, mm3, mm4, mm5, mm6, mm7, mm8, mm9, mm10, mm11, mm12, mm13, gmr1, gmr2, gmr3, gmr4, gmr5, gmr6, gmr7, gmr10, gmr11, gmr12, gmr14, gmr15, gmr16, gmr17, gmr18, gmr19, gmz0, gmz4, gmz5, gmz6, gmz21, gmz29, gmz30, gmz31, gmp8, gmp9, mmp8, mmp9, gm28, mm28, gmd, up_1, up_2, reduceIte, Nat.reduceEqDiff] at e8 e9
  rw [k2] at e8
  subst e8 e9
  try simp only [gm0, gm1, gm2, gm3, gm4, gm5, gm6, gm7, gm8, gm9, gm10, gm11, gm12, gm13, mm0, mm1, mm2, mm3, mm4, mm5, mm6, mm7, mm8, mm9, mm10, mm11, mm12, mm13, gmr1, gmr2, gmr3, gmr4, gmr5, gmr6, gmr7, gmr10, gmr11, gmr12, gmr14, gmr15, gmr16, gmr17, gmr18, gmr19, gmz0, gmz4, gmz5, gmz6, gmz21, gmz29, gmz30, gmz31, gmp8, gmp9, mmp8, mmp9, gm28, mm28, gmd, up_1, up_2, reduceIte, Nat.reduceEqDiff]
  refine m_held (fun σ12 e12 => ?_)
  rw [e6] at e12
  subst e12
  try simp only [gm0, gm1, gm2, gm3, gm4, gm5, gm6, gm7, gm8, gm9, gm10, gm11, gm12, gm13, mm0, mm1, mm2, mm3, mm4, mm5, mm6, mm7, mm8, mm9, mm10, mm11, mm12, mm13, gmr1, gmr2, gmr3, gmr4, gmr5, gmr6, gmr7, gmr10, gmr11, gmr12, gmr14, gmr15, gmr16, gmr17, gmr18, gmr19, gmz0, gmz4, gmz5, gmz6, gmz21, gmz29, gmz30, gmz31, gmp8, gmp9, mmp8, mmp9, gm28, mm28, gmd, up_1, up_2, reduceIte, Nat.reduceEqDiff]
  exact hh
theorem m_thick (hh : posti (thickF P) (mu σ P x hm g h)) : w_X7_thick 20 posti (mu σ P x hm g h) := by
  unfold w_X7_thick
  intro x1 e1
  subst e1
  try simp only [gm0, gm1, gm2, gm3, gm4, gm5, gm6, gm7, gm8, gm9, gm10, gm11, gm12, gm13, mm0, mm1, mm2, mm3, mm4, mm5, mm6, mm7, mm8, mm9, mm10, mm11, mm12, mm13, gmr1, gmr2, gmr3, gmr4, gmr5, gmr6, gmr7, gmr10, gmr11, gmr12, gmr14, gmr15, gmr16, gmr17, gmr18, gmr19, gmz0, gmz4, gmz5, gmz6, gmz21, gmz29, gmz30, gmz31, gmp8, gmp9, mmp8, mmp9, gm28, mm28, gmd, up_1, up_2, reduceIte, Nat.reduceEqDiff]
  unfold thickF at hh
  refine ⟨fun c => ⟨fun z => ?_, fun x3 e3 => ?_⟩, fun c => ?_⟩
  · rw [z] at c; exact absurd c (by decide)
  · rw [e3]
    by_cases d : 1 < P.1 4 / 10
    · rw [if_pos d] at hh; exact hh
    · rw [if_neg d] at hh
      have c' := il.mp c
      have d' : ¬ (1 : Int32).toInt < (P.1 4 / 10).toInt := fun q => d (ilt.mpr q)
      have e : P.1 4 / 10 = 1 := ieq.mpr (by omega)
      rw [e]; exact hh
  · rw [if_neg (fun q => c (il.mpr (by have := ilt.mp q; omega)))] at hh
    exact hh
end MPOT
