/-! THE NUMBERS: a pot as numbers by places (the component's), and the last lot; both systems' states in a normal form over it -/
abbrev Pt : Type := (Nat → Int32) × Int64
def upN (f : Nat → Int32) (k : Nat) (v : Int32) : Nat → Int32 := fun j => if j = k then v else f j
def up (P : Pt) (k : Nat) (v : Int32) : Pt := (upN P.1 k v, P.2)
theorem up_1 (P : Pt) (k : Nat) (v : Int32) (j : Nat) : (up P k v).1 j = if j = k then v else P.1 j := rfl
theorem up_2 (P : Pt) (k : Nat) (v : Int32) : (up P k v).2 = P.2 := rfl
/-- the component's state with pot o as P, its stack as f -/
def pu (σ : St) (o : Nat) (P : Pt) (f : Nat → Int32) : St := (fun a k => if a = o then (if 3 ≤ k ∧ k < 17 then P.1 k else σ.1 o k) else if a = o + 1 then f k else σ.1 a k, fun a => if a = o then P.2 else σ.2.1 a, σ.2.2)
def PC (σ : St) (o : Nat) : Pt := (fun k => gi σ o k, gl σ o)
theorem St_ext {σ τ : St} (h1 : ∀ a k, gi σ a k = gi τ a k) (h2 : ∀ a, gl σ a = gl τ a) (h3 : σ.2.2 = τ.2.2) : σ = τ := by
  obtain ⟨a, b, c⟩ := σ
  obtain ⟨a', b', c'⟩ := τ
  have e1 : a = a' := funext fun x => funext fun y => h1 x y
  have e2 : b = b' := funext fun x => h2 x
  have e3 : c = c' := h3
  rw [e1, e2, e3]
theorem gi_pu {σ : St} {o : Nat} {P : Pt} {f : Nat → Int32} (a k : Nat) : gi (pu σ o P f) a k = if a = o then (if 3 ≤ k ∧ k < 17 then P.1 k else gi σ o k) else if a = o + 1 then f k else gi σ a k := rfl
theorem gl_pu' {σ : St} {o : Nat} {P : Pt} {f : Nat → Int32} (a : Nat) : gl (pu σ o P f) a = if a = o then P.2 else gl σ a := rfl
theorem gr_pu {σ : St} {o : Nat} {P : Pt} {f : Nat → Int32} (a k : Nat) : gr (pu σ o P f) a k = gr σ a k := rfl
theorem gz_pu {σ : St} {o : Nat} {P : Pt} {f : Nat → Int32} (a : Nat) : gz (pu σ o P f) a = gz σ a := rfl
theorem gi_pu_n {σ : St} {o a k : Nat} {P : Pt} {f : Nat → Int32} (h : a ≠ o) (h' : a ≠ o + 1) : gi (pu σ o P f) a k = gi σ a k := by rw [gi_pu, if_neg h, if_neg h']
theorem gi_pu_o {σ : St} {o k : Nat} {P : Pt} {f : Nat → Int32} (h : 3 ≤ k ∧ k < 17) : gi (pu σ o P f) o k = P.1 k := by rw [gi_pu, if_pos rfl, if_pos h]
theorem gi_pu_s {σ : St} {o k : Nat} {P : Pt} {f : Nat → Int32} : gi (pu σ o P f) (o + 1) k = f k := by rw [gi_pu, if_neg (by omega), if_pos rfl]
theorem gl_pu {σ : St} {o : Nat} {P : Pt} {f : Nat → Int32} : gl (pu σ o P f) o = P.2 := by rw [gl_pu', if_pos rfl]
theorem gl_pu_n {σ : St} {o a : Nat} {P : Pt} {f : Nat → Int32} (h : a ≠ o) : gl (pu σ o P f) a = gl σ a := by rw [gl_pu', if_neg h]
theorem gi_si' (σ : St) (o k : Nat) (v : Int32) (a b : Nat) : gi (si σ o k v) a b = if a = o then (if b = k then v else gi σ a b) else gi σ a b := rfl
theorem gl_si' (σ : St) (o k : Nat) (v : Int32) (a : Nat) : gl (si σ o k v) a = gl σ a := rfl
theorem gl_sl' (σ : St) (o : Nat) (v : Int64) (a : Nat) : gl (sl σ o v) a = if a = o then v else gl σ a := rfl
theorem pu_self (σ : St) (o : Nat) : pu σ o (PC σ o) (fun k => gi σ (o + 1) k) = σ := by
  refine St_ext (fun a k => ?_) (fun a => ?_) rfl
  · rw [gi_pu]
    by_cases h : a = o
    · subst h
      rw [if_pos rfl]
      split <;> rfl
    · rw [if_neg h]
      by_cases h' : a = o + 1
      · rw [if_pos h', h']
      · rw [if_neg h']
  · rw [gl_pu']
    by_cases h : a = o
    · rw [if_pos h, h]; rfl
    · rw [if_neg h]
theorem pu_pu {σ : St} {o : Nat} {P Q : Pt} {f g : Nat → Int32} : pu (pu σ o P f) o Q g = pu σ o Q g := by
  refine St_ext (fun a k => ?_) (fun a => ?_) rfl
  · rw [gi_pu, gi_pu, gi_pu, gi_pu]
    by_cases h : a = o
    · rw [if_pos h, if_pos h]
      by_cases hk : 3 ≤ k ∧ k < 17
      · rw [if_pos hk, if_pos hk]
      · rw [if_neg hk, if_neg hk, if_pos rfl, if_neg hk]
    · rw [if_neg h, if_neg h]
      by_cases h' : a = o + 1
      · rw [if_pos h', if_pos h', if_neg h]
      · rw [if_neg h', if_neg h', if_neg h, if_neg h']
  · rw [gl_pu', gl_pu', gl_pu']
    by_cases h : a = o
    · rw [if_pos h, if_pos h]
    · rw [if_neg h, if_neg h, if_neg h]
theorem pu_up {σ : St} {o k : Nat} {P : Pt} {f : Nat → Int32} {v : Int32} (hk : 3 ≤ k ∧ k < 17) : si (pu σ o P f) o k v = pu σ o (up P k v) f := by
  refine St_ext (fun a j => ?_) (fun a => rfl) rfl
  rw [gi_si', gi_pu, gi_pu, up_1]
  by_cases h : a = o
  · rw [if_pos h, if_pos h, if_pos h]
    by_cases hj : j = k
    · subst hj; rw [if_pos rfl, if_pos hk, if_pos rfl]
    · rw [if_neg hj, if_neg hj]
  · rw [if_neg h, if_neg h, if_neg h]
theorem pu_sl {σ : St} {o : Nat} {P : Pt} {f : Nat → Int32} {v : Int64} : sl (pu σ o P f) o v = pu σ o (P.1, v) f := by
  refine St_ext (fun a j => rfl) (fun a => ?_) rfl
  rw [gl_sl', gl_pu', gl_pu']
  by_cases h : a = o
  · rw [if_pos h, if_pos h]
  · rw [if_neg h, if_neg h, if_neg h]
theorem pu_ss {σ : St} {o k : Nat} {P : Pt} {f : Nat → Int32} {v : Int32} : si (pu σ o P f) (o + 1) k v = pu σ o P (upN f k v) := by
  refine St_ext (fun a j => ?_) (fun a => rfl) rfl
  rw [gi_si', gi_pu, gi_pu]
  unfold upN
  by_cases h : a = o
  · rw [if_pos h, if_pos h, if_neg (by omega)]
  · rw [if_neg h, if_neg h]
    by_cases h' : a = o + 1
    · rw [if_pos h', if_pos h', if_pos h']
    · rw [if_neg h', if_neg h', if_neg h']
/-- two tellings of a pot that read alike -/
def pEq (P Q : Pt) : Prop := P.2 = Q.2 ∧ P.1 3 = Q.1 3 ∧ P.1 4 = Q.1 4 ∧ P.1 5 = Q.1 5 ∧ P.1 6 = Q.1 6 ∧ P.1 7 = Q.1 7 ∧ P.1 8 = Q.1 8 ∧ P.1 9 = Q.1 9 ∧ P.1 10 = Q.1 10 ∧ P.1 11 = Q.1 11 ∧ P.1 12 = Q.1 12 ∧ P.1 13 = Q.1 13 ∧ P.1 14 = Q.1 14 ∧ P.1 15 = Q.1 15 ∧ P.1 16 = Q.1 16
theorem pEq.at_ {P Q : Pt} (h : pEq P Q) {k : Nat} (hk : 3 ≤ k ∧ k < 17) : P.1 k = Q.1 k := by
  obtain ⟨-, h3, h4, h5, h6, h7, h8, h9, h10, h11, h12, h13, h14, h15, h16⟩ := h
  rcases (show k = 3 ∨ k = 4 ∨ k = 5 ∨ k = 6 ∨ k = 7 ∨ k = 8 ∨ k = 9 ∨ k = 10 ∨ k = 11 ∨ k = 12 ∨ k = 13 ∨ k = 14 ∨ k = 15 ∨ k = 16 by omega) with rfl | rfl | rfl | rfl | rfl | rfl | rfl | rfl | rfl | rfl | rfl | rfl | rfl | rfl <;> assumption
theorem pu_congr {σ : St} {o : Nat} {P Q : Pt} {f : Nat → Int32} (h : pEq P Q) : pu σ o P f = pu σ o Q f := by
  refine St_ext (fun a k => ?_) (fun a => ?_) rfl
  · rw [gi_pu, gi_pu]
    by_cases hk : 3 ≤ k ∧ k < 17
    · rw [h.at_ hk]
    · rw [if_neg hk, if_neg hk]
  · rw [gl_pu', gl_pu', h.1]
/-! the law's codes (the component's: a number itself; -1 to -6 names; -11 no; -12 less than nothing; -21 to -27 what joins two), worked on a stack -/
def cM (c : Int32) : Int32 := if -6 ≤ c then c else if c = -12 then -100 else if c = -11 then -101 else if c = -21 then -103 else if c = -22 then -102 else if c = -23 then -160 else if c = -24 then -161 else if c = -25 then -143 else if c = -26 then -145 else -142
def join (c a b : Int32) : Int32 :=
  if c = -26 then a - b else if c = -25 then a + b else if c = -24 then (if a = b then 1 else 0) else if c = -23 then (if b ≤ a then 0 else 1) else if c = -22 then (if a = 0 then 0 else if b = 0 then 0 else 1) else if c = -21 then (if a = 0 then (if b = 0 then 0 else 1) else 1) else a * b
def nmF (P : Pt) (c : Int32) : Int32 := if c = -1 then P.1 6 else if c = -2 then P.1 5 else if c = -3 then P.1 12 else if c = -4 then P.1 4 else if c = -5 then P.1 9 else if P.1 15 ≤ 0 then 0 else P.1 16 / P.1 15
def stE (P : Pt) (s : (Nat → Int32) × Nat) (c : Int32) : (Nat → Int32) × Nat :=
  if 0 ≤ c then (upN s.1 s.2 c, s.2 + 1) else if -6 ≤ c then (upN s.1 s.2 (nmF P c), s.2 + 1) else if c = -12 then (upN s.1 (s.2 - 1) (-(s.1 (s.2 - 1))), s.2) else if c = -11 then (upN s.1 (s.2 - 1) (if s.1 (s.2 - 1) = 0 then 1 else 0), s.2)
  else (upN s.1 (s.2 - 2) (join c (s.1 (s.2 - 2)) (s.1 (s.2 - 1))), s.2 - 1)
def runE (P : Pt) : List Int32 → (Nat → Int32) × Nat → (Nat → Int32) × Nat
  | [], s => s
  | c :: ts, s => runE P ts (stE P s c)
def wfE : List Int32 → Nat → Prop
  | [], t => t = 1
  | c :: ts, t => if 0 ≤ c then t < 40 ∧ wfE ts (t + 1) else if -6 ≤ c then t < 40 ∧ wfE ts (t + 1) else if c = -12 then 1 ≤ t ∧ wfE ts t else if c = -11 then 1 ≤ t ∧ wfE ts t else (-27 ≤ c ∧ c ≤ -21) ∧ 2 ≤ t ∧ wfE ts (t - 1)
def worthF (P : Pt) (ts : List Int32) : Int32 := (runE P ts (fun _ => 0, 0)).1 0
theorem runE_agree (P Q : Pt) (hPQ : ∀ c, nmF P c = nmF Q c) : ∀ (ts : List Int32) (f g : Nat → Int32) (t : Nat), wfE ts t → (∀ j, j < t → f j = g j) → (runE P ts (f, t)).1 0 = (runE Q ts (g, t)).1 0 := by
  intro ts
  induction ts with
  | nil => intro f g t h hj; have h : t = 1 := h; exact hj 0 (by omega)
  | cons c ts ih =>
    intro f g t h hj
    unfold wfE at h
    show (runE P ts (stE P (f, t) c)).1 0 = (runE Q ts (stE Q (g, t) c)).1 0
    unfold stE
    by_cases c0 : 0 ≤ c
    · rw [if_pos c0] at h
      rw [if_pos c0, if_pos c0]
      exact ih _ _ (t + 1) h.2 (fun j hlt => by show upN f t c j = upN g t c j; unfold upN; split; rfl; exact hj j (by omega))
    · rw [if_neg c0] at h
      rw [if_neg c0, if_neg c0]
      by_cases c6 : -6 ≤ c
      · rw [if_pos c6] at h
        rw [if_pos c6, if_pos c6]
        exact ih _ _ (t + 1) h.2 (fun j hlt => by show upN f t (nmF P c) j = upN g t (nmF Q c) j; rw [hPQ]; unfold upN; split; rfl; exact hj j (by omega))
      · rw [if_neg c6] at h
        rw [if_neg c6, if_neg c6]
        by_cases cn : c = -12
        · rw [if_pos cn] at h
          rw [if_pos cn, if_pos cn]
          exact ih _ _ t h.2 (fun j hlt => by show upN f (t - 1) (-(f (t - 1))) j = upN g (t - 1) (-(g (t - 1))) j; rw [hj (t - 1) (by omega)]; unfold upN; split; rfl; exact hj j hlt)
        · rw [if_neg cn] at h
          rw [if_neg cn, if_neg cn]
          by_cases ct : c = -11
          · rw [if_pos ct] at h
            rw [if_pos ct, if_pos ct]
            exact ih _ _ t h.2 (fun j hlt => by show upN f (t - 1) (if f (t - 1) = 0 then 1 else 0) j = upN g (t - 1) (if g (t - 1) = 0 then 1 else 0) j; rw [hj (t - 1) (by omega)]; unfold upN; split; rfl; exact hj j hlt)
          · rw [if_neg ct] at h
            rw [if_neg ct, if_neg ct]
            have h1 := h.2.1
            exact ih _ _ (t - 1) h.2.2 (fun j hlt => by show upN f (t - 2) (join c (f (t - 2)) (f (t - 1))) j = upN g (t - 2) (join c (g (t - 2)) (g (t - 1))) j; rw [hj (t - 1) (by omega), hj (t - 2) (by omega)]; unfold upN; split; rfl; exact hj j (by omega))
/-- a law: its three parts' codes -/
abbrev Lw : Type := List Int32 × List Int32 × List Int32
def Lall (L : Lw) : List Int32 := L.1 ++ (L.2.1 ++ L.2.2)
def Lpart (L : Lw) (p : Nat) : List Int32 := if p = 0 then L.1 else if p = 1 then L.2.1 else L.2.2
def Lfrom (L : Lw) (p : Nat) : Nat := if p = 0 then 0 else if p = 1 then L.1.length else L.1.length + L.2.1.length
def LOk (L : Lw) : Prop := wfE L.1 0 ∧ wfE L.2.1 0 ∧ wfE L.2.2 0 ∧ (Lall L).length ≤ 160
/-- a law's cells -/
def LawAt (M : Nat) (σ : St) (r : Nat) (L : Lw) : Prop := kdC r = 2 ∧ r < M ∧ 54 ≤ r ∧ gz σ (r - 1) = (Lall L).length ∧ (∀ i c, (Lall L)[i]? = some c → gi σ (r - 1) i = c) ∧ gi σ r 1 = nI L.1.length ∧ gi σ r 2 = nI (L.1.length + L.2.1.length) ∧ LOk L
def clampF (most v : Int32) : Int32 := if 0 < (if v < most then v else most) then (if v < most then v else most) else 0
def nx (l : Int64) : Int64 := (l * 48271) - (l * 48271) / 2147483647 * 2147483647
def beatR (a : Int32) (P : Pt) : Int32 := if (a * ((1 + P.1 12) + P.1 8 / 20)) < P.1 11 then (a * ((1 + P.1 12) + P.1 8 / 20)) else P.1 11
def beatF (a : Int32) (P : Pt) : Pt := up (up (up P 11 (P.1 11 - beatR a P)) 10 (P.1 10 + beatR a P)) 13 (if 0 < P.1 13 - a then P.1 13 - a else 0)
def pourF (a b : Int32) (P : Pt) : Pt := up (up (up P 4 (if P.1 4 + a < 9999 then P.1 4 + a else 9999)) 5 (if P.1 5 + (a * b) / 4 < 99 then P.1 5 + (a * b) / 4 else 99)) 6 (if 0 < P.1 6 - a / 2 then P.1 6 - a / 2 else 0)
def throwF (ch : Nat → Int32) (a : Int32) (P : Pt) : Pt :=
  up (up (up (up (up (up P 15 (P.1 15 + a)) 16 (P.1 16 + a * ch 0)) 7 (P.1 7 + a * ch 3)) 9 (P.1 9 + a * ch 1)) 4 (P.1 4 + a * ch 2)) 6 (if 0 < P.1 6 - a then P.1 6 - a else 0)
def settleF (P : Pt) : Pt := if P.1 6 ≤ 60 then up (up P 10 (P.1 10 - P.1 10 / 2)) 11 (P.1 11 + P.1 10 / 2) else up (up (up P 10 (P.1 10 - P.1 10 / 2)) 11 (P.1 11 + P.1 10 / 2)) 13 (P.1 13 + (1 + P.1 7 / 50))
def lotF (P : Pt) : Int64 := if P.2 = 0 then 0 else nx P.2
def drawF (P : Pt) : Int32 := if P.2 = 0 then 0 else (nx P.2 - nx P.2 / 9 * 9).toInt32 - 4
def heatX (P : Pt) : Int32 := (P.1 6 + (12 * P.1 3 - P.1 6) / 3) + drawF P
def heatF (P : Pt) : Pt := (upN (upN P.1 14 (P.1 14 + 1)) 6 (if 0 < (if heatX P < 120 then heatX P else 120) then (if heatX P < 120 then heatX P else 120) else 0), lotF P)
def meltG (L : Lw) (P : Pt) : Int32 := (P.1 7 * clampF 100 (worthF P L.1)) / 100
def meltF (L : Lw) (P : Pt) : Pt := up (up P 7 (P.1 7 - meltG L P)) 8 (P.1 8 + meltG L P)
def goneF (L : Lw) (P : Pt) : Int32 := (P.1 9 * clampF 100 (worthF P L.2.1)) / 100
def dryF (P : Pt) : Pt := up P 4 (if 0 < P.1 4 - P.1 6 / 40 then P.1 4 - P.1 6 / 40 else 0)
def splitF (L : Lw) (st : Int32) (P : Pt) : Pt :=
  if st = 0 then settleF (up (up P 9 (P.1 9 - goneF L P)) 11 (P.1 11 + goneF L P)) else up (up P 9 (P.1 9 - goneF L P)) 10 (P.1 10 + goneF L P)
def minuteF (L : Lw) (st : Int32) (P : Pt) : Pt := dryF (splitF L st (meltF L (heatF P)))
def minsF (k m : Int32) : Int32 := if k = 0 then 1 + m else if k = 3 then 1 + m else if k = 5 then (if 1 < m then m else 1) else 1
def stirF (k : Int32) : Int32 := if k = 0 then 0 else 1
def actF (k m f : Int32) (ch : Option (Nat → Int32)) (P : Pt) : Pt :=
  if k = 1 then pourF m f P else if k = 2 then (match ch with | none => P | some c => throwF c m P) else if k = 3 then beatF m P
  else if k = 4 then up (pourF m f P) 12 (if (pourF m f P).1 12 + m < 99 then (pourF m f P).1 12 + m else 99) else if k = 5 then up (beatF m P) 3 f else P
def iterF (F : Pt → Pt) : Nat → Pt → Pt
  | 0, P => P
  | n + 1, P => iterF F n (F P)
def underF (L : Lw) (k m f : Int32) (ch : Option (Nat → Int32)) (P : Pt) : Pt := iterF (minuteF L (stirF k)) (minsF k m).toNatClampNeg (actF k m f ch P)
def startF (flame water sour : Int32) : Pt := (fun k => if k = 3 then flame else if k = 4 then water else if k = 5 then sour else if k = 6 then 20 else 0, 0)
def thickF (P : Pt) : Int32 := ((P.1 8 + 3 * P.1 12) + P.1 10) / (if 1 < P.1 4 / 10 then P.1 4 / 10 else 1)
def longF (L : Lw) (P : Pt) : Int32 := if P.1 8 = 0 then 0 else clampF 999 (worthF P L.2.2)
def holdF (P : Pt) : Int32 := if P.1 15 = 0 then 1 else if P.1 9 + P.1 10 < 4 * P.1 11 then 0 else 1
def sortF (L : Lw) (P : Pt) : Int32 :=
  if P.1 15 = 0 then 0 else if holdF P = 0 then (if P.1 7 ≤ P.1 8 then 3 else if P.1 4 ≤ 5 * P.1 15 then 3 else 4)
  else if P.1 7 ≤ P.1 8 then (if thickF P ≤ 60 then (if longF L P ≤ 40 then 0 else 1) else 5) else 2
def tellF (L : Lw) (P : Pt) (w : Int32) : Int32 :=
  if w = 0 then P.1 7 else if w = 1 then P.1 8 else if w = 2 then P.1 9 else if w = 3 then P.1 10 else if w = 4 then P.1 11 else if w = 5 then P.1 4 else if w = 6 then P.1 5 else if w = 7 then P.1 12 else if w = 8 then P.1 6 else if w = 9 then P.1 14 else if w = 10 then P.1 13
  else if w = 11 then thickF P else if w = 12 then longF L P else sortF L P
