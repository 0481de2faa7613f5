/-! whole numbers behind the Int32s -/
theorem ib (x : Int32) : -2147483648 ≤ x.toInt ∧ x.toInt < 2147483648 := ⟨Int32.le_toInt x, Int32.toInt_lt x⟩
theorem ib_bmod {z : Int} (h1 : -2147483648 ≤ z) (h2 : z < 2147483648) : z.bmod 4294967296 = z := by
  rw [Int.bmod_def]
  omega
theorem ia {x y : Int32} (h1 : -2147483648 ≤ x.toInt + y.toInt) (h2 : x.toInt + y.toInt < 2147483648) : (x + y).toInt = x.toInt + y.toInt := by
  rw [Int32.toInt_add]; exact ib_bmod h1 h2
theorem isu {x y : Int32} (h1 : -2147483648 ≤ x.toInt - y.toInt) (h2 : x.toInt - y.toInt < 2147483648) : (x - y).toInt = x.toInt - y.toInt := by
  rw [Int32.toInt_sub]; exact ib_bmod h1 h2
theorem im {x y : Int32} (h1 : -2147483648 ≤ x.toInt * y.toInt) (h2 : x.toInt * y.toInt < 2147483648) : (x * y).toInt = x.toInt * y.toInt := by
  rw [Int32.toInt_mul]; exact ib_bmod h1 h2
theorem idv {x y : Int32} (hx : 0 ≤ x.toInt) (hy : 0 < y.toInt) : (x / y).toInt = x.toInt / y.toInt := by
  have e : (x / y).toInt = (x.toInt.tdiv y.toInt).bmod 4294967296 := Int32.toInt_div x y
  have hb := ib x
  have e2 : x.toInt.tdiv y.toInt = x.toInt / y.toInt := Int.tdiv_eq_ediv_of_nonneg hx
  have h3 : 0 ≤ x.toInt / y.toInt := Int.ediv_nonneg hx (by omega)
  have h4 : x.toInt / y.toInt ≤ x.toInt := Int.ediv_le_self _ hx
  rw [e, e2, ib_bmod (by omega) (by omega)]
theorem il {x y : Int32} : x ≤ y ↔ x.toInt ≤ y.toInt := Int32.le_iff_toInt_le
theorem ilt {x y : Int32} : x < y ↔ x.toInt < y.toInt := Int32.lt_iff_toInt_lt
theorem ieq {x y : Int32} : x = y ↔ x.toInt = y.toInt := Int32.toInt_inj.symm
theorem pct {a w : Int} (ha : 0 ≤ a) (hw : 0 ≤ w) (hw2 : w ≤ 100) (hA : a ≤ 1000000) : 0 ≤ a * w ∧ a * w ≤ 100000000 ∧ 0 ≤ a * w / 100 ∧ a * w / 100 ≤ a := by
  have h1 : 0 ≤ a * w := Int.mul_nonneg ha hw
  have h2 : a * w ≤ a * 100 := Int.mul_le_mul_of_nonneg_left hw2 ha
  refine ⟨h1, by omega, Int.ediv_nonneg h1 (by omega), ?_⟩
  have := Int.ediv_le_ediv (c := 100) (by omega) h2
  rw [Int.mul_ediv_cancel _ (by omega)] at this
  exact this
/-- a hundredth part of a row's share -/
theorem pctI {a w : Int32} (ha : 0 ≤ a.toInt) (hA : a.toInt ≤ 1000000) (hw : 0 ≤ w.toInt) (hw2 : w.toInt ≤ 100) : (a * w / 100).toInt = a.toInt * w.toInt / 100 ∧ 0 ≤ a.toInt * w.toInt / 100 ∧ a.toInt * w.toInt / 100 ≤ a.toInt := by
  obtain ⟨h1, h2, h3, h4⟩ := pct ha hw hw2 hA
  have e1 : (a * w).toInt = a.toInt * w.toInt := im (by omega) (by omega)
  refine ⟨?_, h3, h4⟩
  rw [idv (by omega) (by decide), e1]
  rfl
theorem clampF_bd (most v : Int32) (hm : 0 ≤ most.toInt) : 0 ≤ (clampF most v).toInt ∧ (clampF most v).toInt ≤ most.toInt := by
  unfold clampF
  have z0 : (0 : Int32).toInt = 0 := by decide
  by_cases h1 : v < most
  · rw [if_pos h1]
    have := ilt.mp h1
    by_cases h2 : 0 < v
    · rw [if_pos h2]
      have := ilt.mp h2
      omega
    · rw [if_neg h2]
      omega
  · rw [if_neg h1]
    by_cases h2 : 0 < most
    · rw [if_pos h2]
      omega
    · rw [if_neg h2]
      omega
def heldF (v most : Int32) : Int32 := if 0 ≤ v then (if v ≤ most then v else most) else 0
theorem clamp_held {most v : Int32} (hm : 0 ≤ most.toInt) : clampF most v = heldF v most := by
  unfold clampF heldF
  have z0 : (0 : Int32).toInt = 0 := by decide
  by_cases h0 : 0 ≤ v
  · rw [if_pos h0]
    have h0' := il.mp h0
    by_cases h1 : v < most
    · rw [if_pos h1]
      have h1' := ilt.mp h1
      rw [if_pos (il.mpr (by omega))]
      by_cases h2 : 0 < v
      · rw [if_pos h2]
      · rw [if_neg h2]
        have : ¬ (0 : Int32).toInt < v.toInt := fun q => h2 (ilt.mpr q)
        exact ieq.mpr (by omega)
    · rw [if_neg h1]
      have h1' : ¬ v.toInt < most.toInt := fun q => h1 (ilt.mpr q)
      by_cases h2 : v ≤ most
      · rw [if_pos h2]
        have := il.mp h2
        have e : v = most := ieq.mpr (by omega)
        subst e
        by_cases h3 : 0 < v
        · rw [if_pos h3]
        · rw [if_neg h3]
          have : ¬ (0 : Int32).toInt < v.toInt := fun q => h3 (ilt.mpr q)
          exact ieq.mpr (by omega)
      · rw [if_neg h2]
        by_cases h3 : 0 < most
        · rw [if_pos h3]
        · rw [if_neg h3]
          have : ¬ (0 : Int32).toInt < most.toInt := fun q => h3 (ilt.mpr q)
          exact ieq.mpr (by omega)
  · rw [if_neg h0]
    have h0' : ¬ (0 : Int32).toInt ≤ v.toInt := fun q => h0 (il.mpr q)
    have h1 : v < most := ilt.mpr (by omega)
    rw [if_pos h1, if_neg (fun q => h0' (by have := ilt.mp q; omega))]
/-- what a pot keeps to: B bounds what is in it, N its minutes -/
def PI (B N : Int) (P : Pt) : Prop :=
  (0 ≤ (P.1 6).toInt ∧ (P.1 6).toInt ≤ 120) ∧ (0 ≤ (P.1 12).toInt ∧ (P.1 12).toInt ≤ 99) ∧ (0 ≤ (P.1 7).toInt ∧ 0 ≤ (P.1 8).toInt ∧ (P.1 7).toInt + (P.1 8).toInt ≤ B) ∧
  (0 ≤ (P.1 9).toInt ∧ 0 ≤ (P.1 10).toInt ∧ 0 ≤ (P.1 11).toInt ∧ (P.1 9).toInt + (P.1 10).toInt + (P.1 11).toInt ≤ B) ∧ (0 ≤ (P.1 4).toInt ∧ (P.1 4).toInt ≤ 10000 + B) ∧ (0 ≤ (P.1 13).toInt ∧ (P.1 13).toInt ≤ 3000 * N) ∧ (0 ≤ (P.1 15).toInt ∧ (P.1 15).toInt ≤ B)
def PB (B N : Int) : Prop := 0 ≤ B ∧ B ≤ 100000 ∧ 0 ≤ N ∧ N ≤ 2000
theorem PI_start {B N : Int} (hB : PB B N) {a b c : Int32} (hb : 0 ≤ b.toInt ∧ b.toInt ≤ 99) : PI B N (startF a b c) := by
  have z0 : (0 : Int32).toInt = 0 := by decide
  have z20 : (20 : Int32).toInt = 20 := by decide
  obtain ⟨h1, h2, h3, h4⟩ := hB
  refine ⟨⟨?_, ?_⟩, ⟨?_, ?_⟩, ⟨?_, ?_, ?_⟩, ⟨?_, ?_, ?_, ?_⟩, ⟨?_, ?_⟩, ⟨?_, ?_⟩, ⟨?_, ?_⟩⟩
  · show 0 ≤ (20 : Int32).toInt; omega
  · show (20 : Int32).toInt ≤ 120; omega
  · show 0 ≤ (0 : Int32).toInt; omega
  · show (0 : Int32).toInt ≤ 99; omega
  · show 0 ≤ (0 : Int32).toInt; omega
  · show 0 ≤ (0 : Int32).toInt; omega
  · show (0 : Int32).toInt + (0 : Int32).toInt ≤ B; omega
  · show 0 ≤ (0 : Int32).toInt; omega
  · show 0 ≤ (0 : Int32).toInt; omega
  · show 0 ≤ (0 : Int32).toInt; omega
  · show (0 : Int32).toInt + (0 : Int32).toInt + (0 : Int32).toInt ≤ B; omega
  · show 0 ≤ b.toInt; omega
  · show b.toInt ≤ 10000 + B; omega
  · show 0 ≤ (0 : Int32).toInt; omega
  · show (0 : Int32).toInt ≤ 3000 * N; omega
  · show 0 ≤ (0 : Int32).toInt; omega
  · show (0 : Int32).toInt ≤ B; omega
