/-! THE LAYER: a world by roles; the state of a system as numbers; rules of one instruction each over it -/
def TB : List Cond := lw_tbl.filter goodWord
theorem TB_good (ws : List Cond) (h : ∀ w ∈ ws, w ∈ TB) : GoodIn TB ws := fun w hw => ⟨h w hw, good_of_word (List.mem_filter.mp (h w hw)).2⟩
theorem TB_at {w : Cond} (i : Nat) (h : lw_tbl[i]? = some w) (g : goodWord w = true) : w ∈ TB := List.mem_filter.mpr ⟨List.mem_of_getElem? h, g⟩
def k_isNest : Cond → Bool
  | .fieldLinkNest .. => true
  | .methodLinkNest .. => true
  | _ => false
def NW : List Cond := tables_1.filter k_isNest
theorem NW_at {w : Cond} (i : Nat) (h : lw_tbl[i]? = some w) (g : k_isNest w = true) (hi : ¬ i < lw_privs.length) : w ∈ NW := by
  refine List.mem_filter.mpr ⟨?_, g⟩
  have h1 : (k2_sels lw_privs).length = lw_privs.length := by simp [k2_sels]
  unfold lw_tbl at h
  rw [List.getElem?_append_right (by omega)] at h
  exact List.mem_of_getElem? h
def wl (M : Nat) (ad : Nat → Nat) (E : Nat → va_E) : va_W := (List.range M).map (fun o => (ad o, E o))
theorem wl_len (M : Nat) (ad : Nat → Nat) (E : Nat → va_E) : (wl M ad E).length = M := by simp [wl]
theorem wl_at {M : Nat} {ad : Nat → Nat} {E : Nat → va_E} {j : Nat} (h : j < M) : (wl M ad E)[j]? = some (ad j, E j) := by simp [wl, h]
theorem wl_out {M : Nat} {ad : Nat → Nat} {E : Nat → va_E} {j : Nat} (h : ¬ j < M) : (wl M ad E)[j]? = none := by simp [wl]; omega
theorem wl_get {X : va_W} {M : Nat} {ad : Nat → Nat} {E : Nat → va_E} {o : Nat} {e : va_E} (h : o < M) (he : E o = e) : (X ++ wl M ad E)[X.length + o]? = some (ad o, e) := by
  rw [List.getElem?_append_right (by omega), Nat.add_sub_cancel_left, wl_at h, he]
theorem wl_set0 {M : Nat} {ad : Nat → Nat} {E : Nat → va_E} {o : Nat} {e : va_E} (h : o < M) : (wl M ad E).set o (ad o, e) = wl M ad (va_up E o e) := by
  apply List.ext_getElem?
  intro j
  by_cases hj : j = o
  · subst hj
    rw [List.getElem?_set_self (by rw [wl_len]; exact h), wl_at h, va_up_self]
  · rw [List.getElem?_set_ne (Ne.symm hj)]
    by_cases hM : j < M
    · rw [wl_at hM, wl_at hM, va_up_ne _ _ hj]
    · rw [wl_out hM, wl_out hM]
theorem wl_set {X : va_W} {M : Nat} {ad : Nat → Nat} {E E' : Nat → va_E} {o : Nat} {e : va_E} (h : o < M) (he : ∀ j, va_up E o e j = E' j) : (X ++ wl M ad E).set (X.length + o) (ad o, e) = X ++ wl M ad E' := by
  rw [List.set_append_right _ _ (by omega), Nat.add_sub_cancel_left, wl_set0 h, show va_up E o e = E' from funext he]
theorem wl_push {X : va_W} {M : Nat} {ad : Nat → Nat} {E : Nat → va_E} {q : Nat} {e : va_E} : (X ++ wl M ad E) ++ [(q, e)] = X ++ wl (M + 1) (va_up ad M q) (va_up E M e) := by
  rw [List.append_assoc]
  congr 1
  apply List.ext_getElem?
  intro j
  by_cases hM : j < M
  · rw [List.getElem?_append_left (by rw [wl_len]; exact hM), wl_at hM, wl_at (by omega), va_up_ne _ _ (by omega), va_up_ne _ _ (by omega)]
  · rw [List.getElem?_append_right (by rw [wl_len]; omega), wl_len]
    by_cases hj : j = M
    · subst hj
      rw [wl_at (by omega), va_up_self, va_up_self]
      simp
    · rw [wl_out (by omega), List.getElem?_eq_none]
      simp
      omega
/-- numbers of a system: ints by cell and place, longs by cell, references (cells) by cell and place, sizes by cell -/
abbrev St : Type := (Nat → Nat → Int32) × (Nat → Int64) × (Nat → Nat → Option Nat) × (Nat → Nat)
def gi (σ : St) (o k : Nat) : Int32 := σ.1 o k
def gl (σ : St) (o : Nat) : Int64 := σ.2.1 o
def gr (σ : St) (o k : Nat) : Option Nat := σ.2.2.1 o k
def gz (σ : St) (o : Nat) : Nat := σ.2.2.2 o
def si (σ : St) (o k : Nat) (v : Int32) : St := (fun a b => if a = o then (if b = k then v else σ.1 a b) else σ.1 a b, σ.2)
def sl (σ : St) (o : Nat) (v : Int64) : St := (σ.1, fun a => if a = o then v else σ.2.1 a, σ.2.2)
def sr (σ : St) (o k : Nat) (v : Option Nat) : St := (σ.1, σ.2.1, fun a b => if a = o then (if b = k then v else σ.2.2.1 a b) else σ.2.2.1 a b, σ.2.2.2)
def sz (σ : St) (o : Nat) (v : Nat) : St := (σ.1, σ.2.1, σ.2.2.1, fun a => if a = o then v else σ.2.2.2 a)
def so (σ : St) (o : Nat) (f : Nat → Int32) : St := (fun a b => if a = o then f b else σ.1 a b, σ.2)
/-- a system's shape: kinds of cells; types of fields (0 int, 1 long, else reference); how many fields; sizes by kind; what references hold; which array class -/
abbrev Sy : Type := (Nat → Nat) × (Nat → Nat → Nat) × (Nat → Nat) × (St → Nat → Nat → Nat) × (St → Nat → Nat → Option Nat) × (Nat → Nat)
def fv (Y : Sy) (ad : Nat → Nat) (σ : St) (ci o k : Nat) : Value := if Y.2.1 ci k = 0 then .int (gi σ o k) else if Y.2.1 ci k = 1 then .long (gl σ o) else va_rf ((Y.2.2.2.2.1 σ o k).map ad)
def eb (Y : Sy) (cs : Nat → ClassId) (ad : Nat → Nat) (σ : St) (kd o : Nat) : va_E :=
  if kd < 20 then .inr (kd, (List.range (Y.2.2.1 kd)).map (fv Y ad σ kd o))
  else if kd < 60 then .inl (cs (Y.2.2.2.2.2 kd), Y.2.2.2.1 σ kd o, .inl (fun j => gi σ o j))
  else .inl (cs (Y.2.2.2.2.2 kd), Y.2.2.2.1 σ kd o, .inr (.inr (.inr (.inr (fun j => (Y.2.2.2.2.1 σ o j).map ad)))))
def en (Y : Sy) (cs : Nat → ClassId) (ad : Nat → Nat) (σ : St) (o : Nat) : va_E := eb Y cs ad σ (Y.1 o) o
/-- a shape's sizes and references don't hang on ints and longs -/
def YOk (Y : Sy) : Prop := ∀ (σ τ : St), σ.2.2 = τ.2.2 → Y.2.2.2.1 σ = Y.2.2.2.1 τ ∧ Y.2.2.2.2.1 σ = Y.2.2.2.2.1 τ
theorem va_congr {f g : Nat → va_E} (h : ∀ a, f a = g a) : f = g := funext h
theorem en_si {Y : Sy} (hY : YOk Y) {cs : Nat → ClassId} {ad : Nat → Nat} {σ : St} {o ci k : Nat} {v : Int32} (hk : Y.1 o = ci) (hci : ci < 20) (hf : Y.2.1 ci k = 0) (j : Nat) :
    va_up (en Y cs ad σ) o (.inr (ci, ((List.range (Y.2.2.1 ci)).map (fv Y ad σ ci o)).set k (.int v))) j = en Y cs ad (si σ o k v) j := by
  obtain ⟨h1, h2⟩ := hY σ (si σ o k v) rfl
  by_cases hj : j = o
  · subst hj
    rw [va_up_self]
    unfold en eb
    rw [hk, if_pos hci]
    congr 2
    apply List.ext_getElem?
    intro i
    by_cases hi : i = k
    · subst hi
      by_cases hl : i < Y.2.2.1 ci
      · rw [List.getElem?_set_self (by simpa using hl)]
        simp [fv, hf, gi, si, hl]
      · rw [List.getElem?_eq_none (by simp; omega), List.getElem?_eq_none (by simp; omega)]
    · rw [List.getElem?_set_ne (Ne.symm hi)]
      simp only [List.getElem?_map]
      by_cases hl : i < Y.2.2.1 ci
      · rw [List.getElem?_range hl]
        simp only [Option.map_some]
        unfold fv
        rw [h2]
        simp [gi, gl, si, hi]
      · rw [List.getElem?_eq_none (by simp; omega)]; rfl
  · rw [va_up_ne _ _ hj]
    unfold en eb fv
    rw [h1, h2]
    have e1 : ∀ i, gi σ j i = gi (si σ o k v) j i := fun i => by simp [gi, si, hj]
    have e2 : gl σ j = gl (si σ o k v) j := rfl
    simp only [e1, e2]
theorem en_sl {Y : Sy} (hY : YOk Y) {cs : Nat → ClassId} {ad : Nat → Nat} {σ : St} {o ci k : Nat} {v : Int64} (hk : Y.1 o = ci) (hci : ci < 20) (hf : Y.2.1 ci k = 1) (hu : ∀ i, Y.2.1 ci i = 1 → i = k) (j : Nat) :
    va_up (en Y cs ad σ) o (.inr (ci, ((List.range (Y.2.2.1 ci)).map (fv Y ad σ ci o)).set k (.long v))) j = en Y cs ad (sl σ o v) j := by
  obtain ⟨h1, h2⟩ := hY σ (sl σ o v) rfl
  by_cases hj : j = o
  · subst hj
    rw [va_up_self]
    unfold en eb
    rw [hk, if_pos hci]
    congr 2
    apply List.ext_getElem?
    intro i
    by_cases hi : i = k
    · subst hi
      by_cases hl : i < Y.2.2.1 ci
      · rw [List.getElem?_set_self (by simpa using hl)]
        simp [fv, hf, gl, sl, hl]
      · rw [List.getElem?_eq_none (by simp; omega), List.getElem?_eq_none (by simp; omega)]
    · rw [List.getElem?_set_ne (Ne.symm hi)]
      simp only [List.getElem?_map]
      by_cases hl : i < Y.2.2.1 ci
      · rw [List.getElem?_range hl]
        simp only [Option.map_some]
        unfold fv
        rw [h2]
        have : ¬ Y.2.1 ci i = 1 := fun q => hi (hu i q)
        simp [gi, sl, this]
      · rw [List.getElem?_eq_none (by simp; omega)]; rfl
  · rw [va_up_ne _ _ hj]
    unfold en eb fv
    rw [h1, h2]
    have e1 : gl σ j = gl (sl σ o v) j := by simp [gl, sl, hj]
    have e2 : ∀ i, gi σ j i = gi (sl σ o v) j i := fun i => rfl
    simp only [e1, e2]
theorem en_sr {Y : Sy} {cs : Nat → ClassId} {ad : Nat → Nat} {σ : St} {o ci k : Nat} {v : Option Nat} (hk : Y.1 o = ci) (hci : ci < 20) (hf : ¬ Y.2.1 ci k = 0 ∧ ¬ Y.2.1 ci k = 1) (h1 : Y.2.2.2.1 σ = Y.2.2.2.1 (sr σ o k v)) (h2 : ∀ a i, Y.2.2.2.2.1 (sr σ o k v) a i = if a = o ∧ i = k then v else Y.2.2.2.2.1 σ a i) (j : Nat) :
    va_up (en Y cs ad σ) o (.inr (ci, ((List.range (Y.2.2.1 ci)).map (fv Y ad σ ci o)).set k (va_rf (v.map ad)))) j = en Y cs ad (sr σ o k v) j := by
  by_cases hj : j = o
  · subst hj
    rw [va_up_self]
    unfold en eb
    rw [hk, if_pos hci]
    congr 2
    apply List.ext_getElem?
    intro i
    by_cases hi : i = k
    · subst hi
      by_cases hl : i < Y.2.2.1 ci
      · rw [List.getElem?_set_self (by simpa using hl)]
        simp [fv, hf.1, hf.2, h2, hl]
      · rw [List.getElem?_eq_none (by simp; omega), List.getElem?_eq_none (by simp; omega)]
    · rw [List.getElem?_set_ne (Ne.symm hi)]
      simp only [List.getElem?_map]
      by_cases hl : i < Y.2.2.1 ci
      · rw [List.getElem?_range hl]
        simp only [Option.map_some]
        unfold fv
        have e := h2 j i
        rw [if_neg (fun q => hi q.2)] at e
        rw [e]
        rfl
      · rw [List.getElem?_eq_none (by simp; omega)]; rfl
  · rw [va_up_ne _ _ hj]
    unfold en eb fv
    rw [← h1]
    have e1 : ∀ i, Y.2.2.2.2.1 (sr σ o k v) j i = Y.2.2.2.2.1 σ j i := fun i => by rw [h2, if_neg (fun q => hj q.1)]
    have e2 : ∀ i, gi σ j i = gi (sr σ o k v) j i := fun i => rfl
    have e3 : gl σ j = gl (sr σ o k v) j := rfl
    simp only [e1, e2, e3]
theorem en_row {Y : Sy} (hY : YOk Y) {cs : Nat → ClassId} {ad : Nat → Nat} {σ : St} {o kd : Nat} {f : Nat → Int32} (hk : Y.1 o = kd) (hlo : ¬ kd < 20) (hhi : kd < 60) (j : Nat) :
    va_up (en Y cs ad σ) o (.inl (cs (Y.2.2.2.2.2 kd), Y.2.2.2.1 σ kd o, .inl f)) j = en Y cs ad (so σ o f) j := by
  obtain ⟨h1, h2⟩ := hY σ (so σ o f) rfl
  by_cases hj : j = o
  · subst hj
    rw [va_up_self]
    unfold en eb
    rw [hk, if_neg hlo, if_pos hhi, h1]
    simp [gi, so]
  · rw [va_up_ne _ _ hj]
    unfold en eb fv
    rw [h1, h2]
    have e1 : ∀ i, gi σ j i = gi (so σ o f) j i := fun i => by simp [gi, so, hj]
    have e2 : gl σ j = gl (so σ o f) j := rfl
    simp only [e1, e2]
theorem so_upd (σ : St) (o i : Nat) (x : Int32) : so σ o (upd (fun j => gi σ o j) i x) = si σ o i x := by
  unfold so si
  congr 1
  funext a b
  by_cases ha : a = o
  · subst ha
    by_cases hb : b = i
    · subst hb; simp [upd]
    · simp [upd, hb, gi]
  · simp [ha]
/-- what stands all along: the classes, the array classes, from where on cells may change, the other system's cells, the texts' cells and the static row's -/
abbrev Gm : Type := va_G × (Nat → ClassId) × Nat × va_W × ((Nat → Nat) × (Nat → Nat) × Nat)
abbrev AA (Γ : Gm) : Nat → Prop := fun q => Γ.2.2.1 ≤ q
def tysW (cs : Nat → ClassId) : List (ClassId × FieldType) := [(cs 0, .int), (cs 1, .object "ThreadsAndSplits$Cheese"), (cs 2, .object "ThreadsAndSplits$Act"), (cs 3, .object "ThreadsAndSplits$Law"), (cs 4, .object "ThreadsAndSplits$Sheet"), (cs 5, .char)]
