theorem nI_sub' {a b : Nat} (h : b ≤ a) : nI a - nI b = nI (a - b) := by
  obtain ⟨d, rfl⟩ := Nat.exists_eq_add_of_le h
  rw [← nI_add, Nat.add_sub_cancel_left, Int32.add_comm, Int32.add_sub_cancel]
theorem i_eq {x y : Int32} (h : x.toInt = y.toInt) : x = y := Int32.toInt_inj.mp h
theorem six {c : Int32} (h1 : ¬ 0 ≤ c) (h2 : -6 ≤ c) : c = -1 ∨ c = -2 ∨ c = -3 ∨ c = -4 ∨ c = -5 ∨ c = -6 := by
  rw [Int32.le_iff_toInt_le] at h1 h2
  have e0 : (0 : Int32).toInt = 0 := by decide
  have e6 : (-6 : Int32).toInt = -6 := by decide
  rw [e0] at h1
  rw [e6] at h2
  rcases (show c.toInt = -1 ∨ c.toInt = -2 ∨ c.toInt = -3 ∨ c.toInt = -4 ∨ c.toInt = -5 ∨ c.toInt = -6 by omega) with q | q | q | q | q | q
  · exact Or.inl (i_eq q)
  · exact Or.inr (Or.inl (i_eq q))
  · exact Or.inr (Or.inr (Or.inl (i_eq q)))
  · exact Or.inr (Or.inr (Or.inr (Or.inl (i_eq q))))
  · exact Or.inr (Or.inr (Or.inr (Or.inr (Or.inl (i_eq q)))))
  · exact Or.inr (Or.inr (Or.inr (Or.inr (Or.inr (i_eq q)))))
theorem seven {c : Int32} (h1 : -27 ≤ c) (h2 : c ≤ -21) : c = -21 ∨ c = -22 ∨ c = -23 ∨ c = -24 ∨ c = -25 ∨ c = -26 ∨ c = -27 := by
  rw [Int32.le_iff_toInt_le] at h1 h2
  have e0 : (-27 : Int32).toInt = -27 := by decide
  have e6 : (-21 : Int32).toInt = -21 := by decide
  rw [e0] at h1
  rw [e6] at h2
  rcases (show c.toInt = -21 ∨ c.toInt = -22 ∨ c.toInt = -23 ∨ c.toInt = -24 ∨ c.toInt = -25 ∨ c.toInt = -26 ∨ c.toInt = -27 by omega) with q | q | q | q | q | q | q
  · exact Or.inl (i_eq q)
  · exact Or.inr (Or.inl (i_eq q))
  · exact Or.inr (Or.inr (Or.inl (i_eq q)))
  · exact Or.inr (Or.inr (Or.inr (Or.inl (i_eq q))))
  · exact Or.inr (Or.inr (Or.inr (Or.inr (Or.inl (i_eq q)))))
  · exact Or.inr (Or.inr (Or.inr (Or.inr (Or.inr (Or.inl (i_eq q))))))
  · exact Or.inr (Or.inr (Or.inr (Or.inr (Or.inr (Or.inr (i_eq q))))))
section CWORTH
variable {M : Nat} {post : St → Prop} {posti : Int32 → St → Prop} {σ : St} {o : Nat} {P : Pt} {f : Nat → Int32}
theorem c_named (hk : kdC o = 3 ∧ o < M) {c : Int32} (h1 : ¬ 0 ≤ c) (h2 : -6 ≤ c) (h : posti (nmF P c) (pu σ o P f)) : w_X3_named M posti o c (pu σ o P f) := by
  unfold w_X3_named
  refine ⟨hk, ?_⟩
  simp only [gp3, gp4, gp5, gp6, gp7, gp8, gp9, gp10, gp11, gp12, gp13, gp14, gp15, gp16, pu3, pu4, pu5, pu6, pu7, pu8, pu9, pu10, pu11, pu12, pu13, pu14, pu15, pu16, up_1, up_2, gl_pu, pu_sl, pu_ss, gi_pu_s, gr_pu, gz_pu, reduceIte, Nat.reduceEqDiff]
  rcases six h1 h2 with rfl | rfl | rfl | rfl | rfl | rfl
  · exact br_t (by decide) h
  · exact br_f (by decide) (br_t (by decide) h)
  · exact br_f (by decide) (br_f (by decide) (br_t (by decide) h))
  · exact br_f (by decide) (br_f (by decide) (br_f (by decide) (br_t (by decide) h)))
  · exact br_f (by decide) (br_f (by decide) (br_f (by decide) (br_f (by decide) (br_t (by decide) h))))
  · refine br_f (by decide) (br_f (by decide) (br_f (by decide) (br_f (by decide) (br_f (by decide) ⟨fun q => ?_, fun q => ?_⟩))))
    · have e : nmF P (-6) = 0 := by show (if P.1 15 ≤ 0 then (0 : Int32) else _) = 0; rw [if_pos q]
      rw [e] at h; exact h
    · have e : nmF P (-6) = P.1 16 / P.1 15 := by show (if P.1 15 ≤ 0 then (0 : Int32) else P.1 16 / P.1 15) = _; rw [if_neg q]
      rw [e] at h
      refine ⟨fun z => q (by rw [z]; exact Int32.le_refl 0), fun x7 e7 => ?_⟩
      rw [e7]; exact h
theorem c_joined {c a b : Int32} (h1 : -27 ≤ c) (h2 : c ≤ -21) (h : posti (join c a b) σ) : w_X2_joined M posti c a b σ := by
  unfold w_X2_joined
  rcases seven h1 h2 with rfl | rfl | rfl | rfl | rfl | rfl | rfl
  · have e : join (-21) a b = if a = 0 then (if b = 0 then 0 else 1) else 1 := rfl
    rw [e] at h
    refine br_f (by decide) (br_f (by decide) (br_f (by decide) (br_f (by decide) (br_f (by decide) (br_t (by decide) ⟨fun q => ⟨fun q2 => ?_, fun q2 => ?_⟩, fun q => ?_⟩)))))
    · rw [if_pos q, if_pos q2] at h; exact h
    · rw [if_pos q, if_neg q2] at h; exact h
    · rw [if_neg q] at h; exact h
  · have e : join (-22) a b = if a = 0 then 0 else if b = 0 then 0 else 1 := rfl
    rw [e] at h
    refine br_f (by decide) (br_f (by decide) (br_f (by decide) (br_f (by decide) (br_t (by decide) ⟨fun q => ?_, fun q => ⟨fun q2 => ?_, fun q2 => ?_⟩⟩))))
    · rw [if_pos q] at h; exact h
    · rw [if_neg q, if_pos q2] at h; exact h
    · rw [if_neg q, if_neg q2] at h; exact h
  · have e : join (-23) a b = if b ≤ a then 0 else 1 := rfl
    rw [e] at h
    refine br_f (by decide) (br_f (by decide) (br_f (by decide) (br_t (by decide) ⟨fun q => ?_, fun q => ?_⟩)))
    · rw [if_pos q] at h; exact h
    · rw [if_neg q] at h; exact h
  · have e : join (-24) a b = if a = b then 1 else 0 := rfl
    rw [e] at h
    refine br_f (by decide) (br_f (by decide) (br_t (by decide) ⟨fun q => ?_, fun q => ?_⟩))
    · rw [if_pos q] at h; exact h
    · rw [if_neg q] at h; exact h
  · exact br_f (by decide) (br_t (by decide) h)
  · exact br_t (by decide) h
  · exact br_f (by decide) (br_f (by decide) (br_f (by decide) (br_f (by decide) (br_f (by decide) (br_f (by decide) h)))))
theorem c_codeAt {r : Nat} {L : Lw} (hL : LawAt M σ r L) (ho : o + 1 < 53) {i : Nat} {c : Int32} (hc : (Lall L)[i]? = some c) (h : posti c (pu σ o P f)) : w_X2_codeAt M posti r (nI i) (pu σ o P f) := by
  obtain ⟨h1, h2, h3, h4, h5, h6, h7, h8⟩ := hL
  have hlen := h8.2.2.2
  have hi : i < (Lall L).length := (List.getElem?_eq_some_iff.mp hc).1
  unfold w_X2_codeAt
  refine ⟨⟨h1, h2⟩, br_f (nI_pos (by omega)) ?_⟩
  rw [gz_pu, h4]
  refine br_f (nI_ge hi (by omega)) ⟨vp_in_nI hi (by omega), fun x3 e3 => ?_⟩
  rw [e3, nI_clamp (by omega), gi_pu_n (by omega) (by omega), h5 i c hc]
  exact h
theorem c_wl (hk : kdC o = 3 ∧ o < M) (ho : o + 1 < 53) {r : Nat} {L : Lw} (hr : gr σ o 1 = some r) (hL : LawAt M σ r L) {most : Int32} {e : Nat} :
    ∀ (ts : List Int32) (i top : Nat) (f : Nat → Int32), (∀ j c, ts[j]? = some c → (Lall L)[i + j]? = some c) → i + ts.length ≤ 160 → wfE ts top → top ≤ 40 → e = i + ts.length → posti (clampF most ((runE P ts (f, top)).1 0)) (pu σ o P (runE P ts (f, top)).1) → wl_X3_worth_31 M posti (ts.length + 1) o most (nI top) (nI e) (nI i) (pu σ o P f) := by
  intro ts
  induction ts with
  | nil =>
    intro i top f hc hlen hwf htop he h
    show w_X3_worth_31 M posti _ o most (nI top) (nI e) (nI i) (pu σ o P f)
    unfold w_X3_worth_31
    have he : e = i := he
    rw [he]
    refine br_t (Int32.le_refl _) (fun x2 e2 x3 e3 => ?_)
    rw [e3, e2, gi_pu_s]
    exact h
  | cons c ts ih =>
    intro i top f hc hlen hwf htop he h
    have hlen : i + (ts.length + 1) ≤ 160 := hlen
    have he : e = i + (ts.length + 1) := he
    have hci := hc 0 c rfl
    have hcs : ∀ j d, ts[j]? = some d → (Lall L)[i + 1 + j]? = some d := fun j d hd => by
      have := hc (j + 1) d (by rw [List.getElem?_cons_succ]; exact hd)
      rw [show i + 1 + j = i + (j + 1) by omega]
      exact this
    have IH := fun top' f' => ih (i + 1) top' f' hcs (by omega)
    show w_X3_worth_31 M posti _ o most (nI top) (nI e) (nI i) (pu σ o P f)
    unfold w_X3_worth_31
    refine br_f (nI_ge (by omega) (by omega)) (fun q4 e4 => ⟨r, by rw [e4, gr_pu]; exact hr, ⟨hL.1, hL.2.1⟩, ?_⟩)
    refine c_codeAt hL ho hci ?_
    replace h : posti (clampF most ((runE P ts (stE P (f, top) c)).1 0)) (pu σ o P (runE P ts (stE P (f, top) c)).1) := h
    unfold wfE at hwf
    unfold stE at h
    by_cases c0 : 0 ≤ c
    · rw [if_pos c0] at hwf h
      have n6 : ¬ c < -6 := Int32.not_lt.mpr (Int32.le_trans (by decide) c0)
      refine br_f n6 (br_f (nI_ge hwf.1 (by decide)) (br_f (Int32.not_lt.mpr c0) ⟨vp_in_nI hwf.1 (by decide), fun σ30 e30 x31 e31 x32 e32 => ?_⟩))
      rw [e32, e31, e30, nI_1, nI_1, nI_clamp (by omega), pu_ss]
      exact IH (top + 1) _ hwf.2 (by omega) (by omega) h
    · rw [if_neg c0] at hwf h
      by_cases c6 : -6 ≤ c
      · rw [if_pos c6] at hwf h
        refine br_f (Int32.not_lt.mpr c6) (br_f (nI_ge hwf.1 (by decide)) (br_t (Int32.not_le.mp c0) ?_))
        refine c_named hk c0 c6 ⟨vp_in_nI hwf.1 (by decide), fun σ30 e30 x31 e31 x32 e32 => ?_⟩
        rw [e32, e31, e30, nI_1, nI_1, nI_clamp (by omega), pu_ss]
        exact IH (top + 1) _ hwf.2 (by omega) (by omega) h
      · rw [if_neg c6] at hwf h
        refine br_t (Int32.not_le.mp c6) ?_
        by_cases cn : c = -12
        · rw [if_pos cn] at hwf h
          subst cn
          refine br_f (by decide) (br_t rfl ?_)
          unfold w_X3_worth_107
          have h1 := hwf.1
          have es : nI top - 1 = nI (top - 1) := nI_sub' (a := top) (b := 1) h1
          rw [es]
          refine br_f (nI_nlt (a := top) (b := 1) h1 (by omega)) (br_f (nI_nlt (a := 40) (b := top) htop (by decide)) ⟨vp_in_nI (by omega) (by decide), fun x5 e5 => br_t rfl ⟨vp_in_nI (by omega) (by decide), fun σ12 e12 x13 e13 => ?_⟩⟩)
          rw [e13, e12, e5, nI_1, nI_clamp (by omega), gi_pu_s, pu_ss]
          exact IH top _ hwf.2 htop (by omega) h
        · rw [if_neg cn] at hwf h
          by_cases ct : c = -11
          · rw [if_pos ct] at hwf h
            subst ct
            refine br_t rfl ?_
            unfold w_X3_worth_107
            have h1 := hwf.1
            have es : nI top - 1 = nI (top - 1) := nI_sub' (a := top) (b := 1) h1
            rw [es]
            refine br_f (nI_nlt (a := top) (b := 1) h1 (by omega)) (br_f (nI_nlt (a := 40) (b := top) htop (by decide)) ⟨vp_in_nI (by omega) (by decide), fun x5 e5 => br_f (by decide) ⟨fun q => ⟨vp_in_nI (by omega) (by decide), fun σ12 e12 x13 e13 => ?_⟩, fun q => ⟨vp_in_nI (by omega) (by decide), fun σ12 e12 x13 e13 => ?_⟩⟩⟩)
            · rw [e5, nI_clamp (by omega), gi_pu_s] at q
              rw [e13, e12, nI_1, nI_clamp (by omega), pu_ss]
              rw [if_pos q] at h
              exact IH top _ hwf.2 htop (by omega) h
            · rw [e5, nI_clamp (by omega), gi_pu_s] at q
              rw [e13, e12, nI_1, nI_clamp (by omega), pu_ss]
              rw [if_neg q] at h
              exact IH top _ hwf.2 htop (by omega) h
          · rw [if_neg ct] at hwf h
            have h1 := hwf.2.1
            have es : nI top - 1 = nI (top - 1) := nI_sub' (a := top) (b := 1) (by omega)
            have es2 : nI top - 2 = nI (top - 2) := nI_sub' (a := top) (b := 2) (by omega)
            rw [es, es2]
            refine br_f ct (br_f cn (br_f (nI_nlt (a := top) (b := 2) h1 (by omega)) (br_f (nI_nlt (a := 40) (b := top) htop (by decide)) ⟨vp_in_nI (by omega) (by decide), fun x15 e15 => ⟨vp_in_nI (by omega) (by decide), fun x16 e16 => ?_⟩⟩)))
            refine c_joined hwf.1.1 hwf.1.2 ⟨vp_in_nI (by omega) (by decide), fun σ19 e19 x20 e20 x21 e21 => ?_⟩
            have em : nI top + (-1) = nI (top - 1) := by rw [← es, Int32.sub_eq_add_neg]
            rw [e21, e20, e19, e16, e15, nI_1, em, nI_clamp (by omega), nI_clamp (by omega), gi_pu_s, gi_pu_s, pu_ss]
            exact IH (top - 1) _ hwf.2.2 (by omega) (by omega) h
theorem Lpart_at (L : Lw) (p : Nat) (hp : p < 3) : (∀ j c, (Lpart L p)[j]? = some c → (Lall L)[Lfrom L p + j]? = some c) ∧ Lfrom L p + (Lpart L p).length ≤ (Lall L).length := by
  have hall : (Lall L).length = L.1.length + (L.2.1.length + L.2.2.length) := by unfold Lall; rw [List.length_append, List.length_append]
  rcases (show p = 0 ∨ p = 1 ∨ p = 2 by omega) with rfl | rfl | rfl
  · refine ⟨fun j c h => ?_, by show 0 + L.1.length ≤ _; omega⟩
    have h : L.1[j]? = some c := h
    have hj := (List.getElem?_eq_some_iff.mp h).1
    show (L.1 ++ (L.2.1 ++ L.2.2))[0 + j]? = some c
    rw [Nat.zero_add, List.getElem?_append_left hj, h]
  · refine ⟨fun j c h => ?_, by show L.1.length + L.2.1.length ≤ _; omega⟩
    have h : L.2.1[j]? = some c := h
    have hj := (List.getElem?_eq_some_iff.mp h).1
    show (L.1 ++ (L.2.1 ++ L.2.2))[L.1.length + j]? = some c
    rw [List.getElem?_append_right (by omega), Nat.add_sub_cancel_left, List.getElem?_append_left hj, h]
  · refine ⟨fun j c h => ?_, by show (L.1.length + L.2.1.length) + L.2.2.length ≤ _; omega⟩
    have h : L.2.2[j]? = some c := h
    show (L.1 ++ (L.2.1 ++ L.2.2))[L.1.length + L.2.1.length + j]? = some c
    rw [List.getElem?_append_right (by omega), show L.1.length + L.2.1.length + j - L.1.length = L.2.1.length + j by omega, List.getElem?_append_right (by omega), Nat.add_sub_cancel_left, h]
theorem c_worth (hk : kdC o = 3 ∧ o < M) (ho : o + 1 < 53) {r : Nat} {L : Lw} (hr : gr σ o 1 = some r) (hL : LawAt M σ r L) {most : Int32} {p : Nat} (hp : p < 3) (hw : wfE (Lpart L p) 0) (h : ∀ f', posti (clampF most (worthF P (Lpart L p))) (pu σ o P f')) : w_X3_worth M posti o (nI p) most (pu σ o P f) := by
  have hL' := hL
  obtain ⟨h1, h2, h3, h4, h5, h6, h7, h8⟩ := hL'
  obtain ⟨k1, k2⟩ := Lpart_at L p hp
  have hlen := h8.2.2.2
  unfold w_X3_worth
  refine ⟨hk, fun q1 e1 => ⟨fun e => ?_, fun o2 e2 => ⟨?_, fun q4 e4 => ⟨r, by rw [e4, gr_pu]; exact hr, ⟨h1, h2⟩, ?_⟩⟩⟩⟩
  · rw [e1, gr_pu, hr] at e; cases e
  · rw [e1, gr_pu, hr] at e2; cases e2; exact ⟨h1, h2⟩
  have hall : (Lall L).length = L.1.length + (L.2.1.length + L.2.2.length) := by unfold Lall; rw [List.length_append, List.length_append]
  have hend : ∀ {pp : Int32 → St → Prop}, pp (nI (Lfrom L p + (Lpart L p).length)) (pu σ o P f) → w_X2_endOf M pp r (nI p) (pu σ o P f) := by
    intro pp hpp
    unfold w_X2_endOf
    refine ⟨⟨h1, h2⟩, ?_⟩
    rw [gi_pu_n (by omega) (by omega), gi_pu_n (by omega) (by omega), gz_pu, h4, h6, h7]
    rcases (show p = 0 ∨ p = 1 ∨ p = 2 by omega) with rfl | rfl | rfl
    · refine br_t (by decide) ?_
      rw [show nI L.1.length = nI (Lfrom L 0 + (Lpart L 0).length) by show nI L.1.length = nI (0 + L.1.length); rw [Nat.zero_add]]
      exact hpp
    · exact br_f (by decide) (br_t (by decide) hpp)
    · refine br_f (by decide) (br_f (by decide) (fun x3 e3 => ?_))
      rw [e3]
      rw [show Int32.ofNat (Lall L).length = nI (Lfrom L 2 + (Lpart L 2).length) by show nI _ = nI ((L.1.length + L.2.1.length) + L.2.2.length); rw [hall]; congr 1; omega]
      exact hpp
  have hsta : ∀ {pp : Int32 → St → Prop}, pp (nI (Lfrom L p)) (pu σ o P f) → w_X2_startOf M pp r (nI p) (pu σ o P f) := by
    intro pp hpp
    unfold w_X2_startOf
    refine ⟨⟨h1, h2⟩, ?_⟩
    rw [gi_pu_n (by omega) (by omega), gi_pu_n (by omega) (by omega), h6, h7]
    rcases (show p = 0 ∨ p = 1 ∨ p = 2 by omega) with rfl | rfl | rfl
    · exact br_t (by decide) hpp
    · exact br_f (by decide) (br_t (by decide) hpp)
    · exact br_f (by decide) (br_f (by decide) hpp)
  refine hend (fun q8 e8 => ⟨r, by rw [e8, gr_pu]; exact hr, ⟨h1, h2⟩, ?_⟩)
  refine hsta ⟨(Lpart L p).length + 1, ?_⟩
  have e0 : (0 : Int32) = nI 0 := by decide
  rw [e0]
  refine c_wl hk ho hr hL (Lpart L p) (Lfrom L p) 0 f k1 (by omega) hw (by omega) rfl ?_
  have ea := runE_agree P P (fun _ => rfl) (Lpart L p) f (fun _ => 0) 0 hw (fun j hj => absurd hj (by omega))
  rw [ea]
  exact h _
end CWORTH
