/-! the hops: each call answers alike, and the relation goes on -/
section HOPS
variable {M : Nat} {σC σM : St}
theorem aSz_le {A : Ab} (hC : CS M A σC) : ∀ d, d < 4 → aSz A d ≤ 40 := fun d hd => (hC.2.2.2.2.2.2.1 d hd).2.2.1
theorem aKp_le {A : Ab} (hC : CS M A σC) : ∀ n, aKp A = n + 1 → n ≤ 4 := fun n e => (hC.2.2.2.2.2.1.2 n e).2.1
theorem hop_cheese (a1 a2 a3 a4 a5 : Int32) (hR : RRel M σC σM) : w_X6_cheese M (fun r u => w_X7_cheese 20 (fun r2 u2 => r = r2 ∧ RRel M u u2) a1 a2 a3 a4 a5 σM) a1 a2 a3 a4 a5 σC := by
  obtain ⟨A, hC, hM, hW⟩ := hR
  exact c_cheese hC (fun u hu => m_cheese (Bd_of hC) hM (fun u2 hu2 => ⟨rfl, _, hu, hu2, (v_cheese hW)⟩))
theorem hop_ripen (a1 a2 a3 : Int32) (hR : RRel M σC σM) : w_X6_ripen M (fun r u => w_X7_ripen 20 (fun r2 u2 => r = r2 ∧ RRel M u u2) a1 a2 a3 σM) a1 a2 a3 σC := by
  obtain ⟨A, hC, hM, hW⟩ := hR
  exact c_ripen hC (fun u hu => m_ripen (Bd_of hC) hM (fun u2 hu2 => ⟨rfl, _, hu, hu2, (v_ripen hW)⟩))
theorem hop_sortTold (a1 a2 : Int32) (hR : RRel M σC σM) : w_X6_sortTold M (fun r u => w_X7_sortTold 20 (fun r2 u2 => r = r2 ∧ RRel M u u2) a1 a2 σM) a1 a2 σC := by
  obtain ⟨A, hC, hM, hW⟩ := hR
  exact c_sortTold hC (m_sortTold (Bd_of hC) hM ⟨rfl, A, hC, hM, hW⟩)
theorem hop_set (a1 a2 : Int32) (hR : RRel M σC σM) : w_X6_set M (fun r u => w_X7_set 20 (fun r2 u2 => r = r2 ∧ RRel M u u2) a1 a2 σM) a1 a2 σC := by
  obtain ⟨A, hC, hM, hW⟩ := hR
  exact c_set hC (fun u hu => m_set hM (fun u2 hu2 => ⟨rfl, _, hu, hu2, (v_set hW)⟩))
theorem hop_count (a1 : Int32) (hR : RRel M σC σM) : w_X6_count M (fun r u => w_X7_count 20 (fun r2 u2 => r = r2 ∧ RRel M u u2) a1 σM) a1 σC := by
  obtain ⟨A, hC, hM, hW⟩ := hR
  exact c_count hC (m_count hM ⟨rfl, A, hC, hM, hW⟩)
theorem hop_feed (a1 a2 a3 a4 a5 a6 : Int32) (hR : RRel M σC σM) : w_X6_feed M (fun r u => w_X7_feed 20 (fun r2 u2 => r = r2 ∧ RRel M u u2) a1 a2 a3 a4 a5 a6 σM) a1 a2 a3 a4 a5 a6 σC := by
  obtain ⟨A, hC, hM, hW⟩ := hR
  exact c_feed hC (fun u hu => m_feed (Bd_of hC) hC.2.2.2.2.1.2.1 hM (fun u2 hu2 => ⟨rfl, _, hu, hu2, (v_feed hW)⟩))
theorem hop_force (a1 : Int32) (hR : RRel M σC σM) : w_X6_force M (fun r u => w_X7_force 20 (fun r2 u2 => r = r2 ∧ RRel M u u2) a1 σM) a1 σC := by
  obtain ⟨A, hC, hM, hW⟩ := hR
  exact c_force hC (fun u hu => m_force (Bd_of hC) hM (fun u2 hu2 => ⟨rfl, _, hu, hu2, (v_force hW)⟩))
theorem hop_act (a1 a2 a3 : Int32) (hR : RRel M σC σM) : w_X6_act M (fun r u => w_X7_act 20 (fun r2 u2 => r = r2 ∧ RRel M u u2) a1 a2 a3 σM) a1 a2 a3 σC := by
  obtain ⟨A, hC, hM, hW⟩ := hR
  exact c_act hC (fun u hu => m_act (Bd_of hC) hM (fun u2 hu2 => ⟨rfl, _, hu, hu2, (v_act hW)⟩))
theorem hop_forget (hR : RRel M σC σM) : w_X6_forget M (fun r u => w_X7_forget 20 (fun r2 u2 => r = r2 ∧ RRel M u u2)  σM)  σC := by
  obtain ⟨A, hC, hM, hW⟩ := hR
  exact c_forget hC (fun u hu => m_forget (Bd_of hC) hM (fun u2 hu2 => ⟨rfl, _, hu, hu2, (v_forget hW)⟩))
theorem hop_actTold (a1 a2 : Int32) (hR : RRel M σC σM) : w_X6_actTold M (fun r u => w_X7_actTold 20 (fun r2 u2 => r = r2 ∧ RRel M u u2) a1 a2 σM) a1 a2 σC := by
  obtain ⟨A, hC, hM, hW⟩ := hR
  exact c_actTold hC (m_actTold (Bd_of hC) hM ⟨rfl, A, hC, hM, hW⟩)
theorem hop_pot (a1 a2 : Int32) (hR : RRel M σC σM) : w_X6_pot M (fun r u => w_X7_pot 20 (fun r2 u2 => r = r2 ∧ RRel M u u2) a1 a2 σM) a1 a2 σC := by
  obtain ⟨A, hC, hM, hW⟩ := hR
  exact c_pot hC (fun u hu => m_pot (Bd_of hC) hW hM (fun u2 hu2 => ⟨rfl, A, hu, hu2, hW⟩))
theorem hop_splits (a1 : Int32) (hR : RRel M σC σM) : w_X6_splits M (fun r u => w_X7_splits 20 (fun r2 u2 => r = r2 ∧ RRel M u u2) a1 σM) a1 σC := by
  obtain ⟨A, hC, hM, hW⟩ := hR
  exact c_splits hC (fun u hu => m_splits (Bd_of hC) hW hM (fun u2 hu2 => ⟨rfl, A, hu, hu2, hW⟩))
theorem hop_hour (a1 a2 : Int32) (hR : RRel M σC σM) : w_X6_hour M (fun r u => w_X7_hour 20 (fun r2 u2 => r = r2 ∧ RRel M u u2) a1 a2 σM) a1 a2 σC := by
  obtain ⟨A, hC, hM, hW⟩ := hR
  exact c_hour hC (fun u hu => m_hour (Bd_of hC) hW hM (fun u2 hu2 => ⟨rfl, A, hu, hu2, hW⟩))
theorem hop_flames (hR : RRel M σC σM) : w_X6_flames M (fun r u => w_X7_flames 20 (fun r2 u2 => r = r2 ∧ RRel M u u2)  σM)  σC := by
  obtain ⟨A, hC, hM, hW⟩ := hR
  exact c_flames hC (fun u hu => m_flames (Bd_of hC) hW hM (fun u2 hu2 => ⟨rfl, A, hu, hu2, hW⟩))
theorem hop_sours (hR : RRel M σC σM) : w_X6_sours M (fun r u => w_X7_sours 20 (fun r2 u2 => r = r2 ∧ RRel M u u2)  σM)  σC := by
  obtain ⟨A, hC, hM, hW⟩ := hR
  exact c_sours hC (fun u hu => m_sours (Bd_of hC) hW hM (fun u2 hu2 => ⟨rfl, A, hu, hu2, hW⟩))
theorem hop_region (hR : RRel M σC σM) : w_X6_region M (fun r u => w_X7_region 20 (fun r2 u2 => r = r2 ∧ RRel M u u2)  σM)  σC := by
  obtain ⟨A, hC, hM, hW⟩ := hR
  exact c_region hC (fun u hu => m_region (Bd_of hC) hW hM (fun u2 hu2 => ⟨rfl, A, hu, hu2, hW⟩))
theorem hop_most (hR : RRel M σC σM) : w_X6_most M (fun r u => w_X7_most 20 (fun r2 u2 => r = r2 ∧ RRel M u u2)  σM)  σC := by
  obtain ⟨A, hC, hM, hW⟩ := hR
  exact c_most hW hC (fun u hu => m_most (Bd_of hC) hW hM (fun u2 hu2 => ⟨rfl, A, hu, hu2, hW⟩))
theorem hop_odds (a1 a2 : Int32) (hR : RRel M σC σM) : w_X6_odds M (fun r u => w_X7_odds 20 (fun r2 u2 => r = r2 ∧ RRel M u u2) a1 a2 σM) a1 a2 σC := by
  obtain ⟨A, hC, hM, hW⟩ := hR
  exact c_odds hC (fun u hu => m_odds (Bd_of hC) hW hM (fun u2 hu2 => ⟨rfl, A, hu, hu2, hW⟩))
theorem hop_save (a1 a2 a3 : Int32) (hR : RRel M σC σM) : w_X6_save M (fun r u => w_X7_save 20 (fun r2 u2 => r = r2 ∧ RRel M u u2) a1 a2 a3 σM) a1 a2 a3 σC := by
  obtain ⟨A, hC, hM, hW⟩ := hR
  exact c_save hC (fun u hu => m_save (Bd_of hC) hW hM (fun u2 hu2 => ⟨rfl, A, hu, hu2, hW⟩))
theorem hop_why (a1 : Int32) (hR : RRel M σC σM) : w_X6_why M (fun r u => w_X7_why 20 (fun r2 u2 => r = r2 ∧ RRel M u u2) a1 σM) a1 σC := by
  obtain ⟨A, hC, hM, hW⟩ := hR
  exact c_why hC (fun u hu => m_why (Bd_of hC) hW hM (fun u2 hu2 => ⟨rfl, A, hu, hu2, hW⟩))
theorem hop_order (a1 : Int32) (hR : RRel M σC σM) : w_X6_order M (fun r u => w_X7_order 20 (fun r2 u2 => r = r2 ∧ RRel M u u2) a1 σM) a1 σC := by
  obtain ⟨A, hC, hM, hW⟩ := hR
  exact c_order hC (fun u hu => m_order (Bd_of hC) hW hM (fun u2 hu2 => ⟨rfl, A, hu, hu2, hW⟩))
theorem hop_strokes (a1 a2 : Int32) (hR : RRel M σC σM) : w_X6_strokes M (fun r u => w_X7_strokes 20 (fun r2 u2 => r = r2 ∧ RRel M u u2) a1 a2 σM) a1 a2 σC := by
  obtain ⟨A, hC, hM, hW⟩ := hR
  exact c_strokes hC (fun u hu => m_strokesO (Bd_of hC) hW hM (fun u2 hu2 => ⟨rfl, A, hu, hu2, hW⟩))
theorem hop_mix (a1 a2 a3 : Int32) (hR : RRel M σC σM) : w_X6_mix M (fun r u => w_X7_mix 20 (fun r2 u2 => r = r2 ∧ RRel M u u2) a1 a2 a3 σM) a1 a2 a3 σC := by
  obtain ⟨A, hC, hM, hW⟩ := hR
  exact c_mix hC (fun u hu => m_mix (Bd_of hC) hW hM (fun u2 hu2 => ⟨rfl, A, hu, hu2, hW⟩))
theorem hop_week (a1 a2 : Int32) (hR : RRel M σC σM) : w_X6_week M (fun r u => w_X7_week 20 (fun r2 u2 => r = r2 ∧ RRel M u u2) a1 a2 σM) a1 a2 σC := by
  obtain ⟨A, hC, hM, hW⟩ := hR
  exact c_week hC (fun u hu => m_week (Bd_of hC) hW hM (fun u2 hu2 => ⟨rfl, A, hu, hu2, hW⟩))
theorem hop_pace (a1 a2 : Int32) (hR : RRel M σC σM) : w_X6_pace M (fun r u => w_X7_pace 20 (fun r2 u2 => r = r2 ∧ RRel M u u2) a1 a2 σM) a1 a2 σC := by
  obtain ⟨A, hC, hM, hW⟩ := hR
  exact c_pace hC (fun u hu => m_pace (Bd_of hC) hW hM (fun u2 hu2 => ⟨rfl, A, hu, hu2, hW⟩))
theorem hop_table (a1 a2 a3 : Int32) (hR : RRel M σC σM) : w_X6_table M (fun r u => w_X7_table 20 (fun r2 u2 => r = r2 ∧ RRel M u u2) a1 a2 a3 σM) a1 a2 a3 σC := by
  obtain ⟨A, hC, hM, hW⟩ := hR
  exact c_table hC (fun u hu => m_table (Bd_of hC) hW hM (fun u2 hu2 => ⟨rfl, A, hu, hu2, hW⟩))
theorem hop_dips (a1 a2 : Int32) (hR : RRel M σC σM) : w_X6_dips M (fun r u => w_X7_dips 20 (fun r2 u2 => r = r2 ∧ RRel M u u2) a1 a2 σM) a1 a2 σC := by
  obtain ⟨A, hC, hM, hW⟩ := hR
  exact c_dips hC (fun u hu => m_dips (Bd_of hC) hW hM (fun u2 hu2 => ⟨rfl, A, hu, hu2, hW⟩))
theorem hop_wick (a1 a2 : Int32) (hR : RRel M σC σM) : w_X6_wick M (fun r u => w_X7_wick 20 (fun r2 u2 => r = r2 ∧ RRel M u u2) a1 a2 σM) a1 a2 σC := by
  obtain ⟨A, hC, hM, hW⟩ := hR
  exact c_wick hC (fun u hu => m_wick (Bd_of hC) hW hM (fun u2 hu2 => ⟨rfl, A, hu, hu2, hW⟩))
theorem hop_judge (a1 : Int32) (hR : RRel M σC σM) : w_X6_judge M (fun r u => w_X7_judge 20 (fun r2 u2 => r = r2 ∧ RRel M u u2) a1 σM) a1 σC := by
  obtain ⟨A, hC, hM, hW⟩ := hR
  exact c_judge hC (fun u hu => m_judge (aSz_le hC) (Bd_of hC) hW hM (fun u2 hu2 => ⟨rfl, A, hu, hu2, hW⟩))
theorem hop_film (a1 : Int32) (hR : RRel M σC σM) : w_X6_film M (fun r u => w_X7_film 20 (fun r2 u2 => r = r2 ∧ RRel M u u2) a1 σM) a1 σC := by
  obtain ⟨A, hC, hM, hW⟩ := hR
  exact c_film hC (fun u hu => m_film (Bd_of hC) hW hM (fun u2 hu2 => ⟨rfl, _, hu, hu2, (v_film hW)⟩))
theorem hop_ages (a1 a2 : Int32) (hR : RRel M σC σM) : w_X6_ages M (fun r u => w_X7_ages 20 (fun r2 u2 => r = r2 ∧ RRel M u u2) a1 a2 σM) a1 a2 σC := by
  obtain ⟨A, hC, hM, hW⟩ := hR
  exact c_ages hC (fun u hu => m_ages (aSz_le hC) (Bd_of hC) hW hM (fun u2 hu2 => ⟨rfl, A, hu, hu2, hW⟩))
theorem hop_which (a1 : Int32) (hR : RRel M σC σM) : w_X6_which M (fun r u => w_X7_which 20 (fun r2 u2 => r = r2 ∧ RRel M u u2) a1 σM) a1 σC := by
  obtain ⟨A, hC, hM, hW⟩ := hR
  exact c_which hC (fun u hu => m_which (aSz_le hC) (Bd_of hC) hW hM (fun u2 hu2 => ⟨rfl, A, hu, hu2, hW⟩))
theorem hop_drawn (a1 a2 a3 : Int32) (hR : RRel M σC σM) : w_X6_drawn M (fun r u => w_X7_drawn 20 (fun r2 u2 => r = r2 ∧ RRel M u u2) a1 a2 a3 σM) a1 a2 a3 σC := by
  obtain ⟨A, hC, hM, hW⟩ := hR
  exact c_drawn hC (fun u hu => m_drawn (Bd_of hC) hW hM (fun u2 hu2 => ⟨rfl, A, hu, hu2, hW⟩))
theorem hop_chance (a1 a2 a3 : Int32) (hR : RRel M σC σM) : w_X6_chance M (fun r u => w_X7_chance 20 (fun r2 u2 => r = r2 ∧ RRel M u u2) a1 a2 a3 σM) a1 a2 a3 σC := by
  obtain ⟨A, hC, hM, hW⟩ := hR
  exact c_chance hC (fun u hu => m_chance (Bd_of hC) hW hM (fun u2 hu2 => ⟨rfl, A, hu, hu2, hW⟩))
theorem hop_image (hR : RRel M σC σM) : w_X6_image M (fun r u => w_X7_image 20 (fun r2 u2 => r = r2 ∧ RRel M u u2)  σM)  σC := by
  obtain ⟨A, hC, hM, hW⟩ := hR
  exact c_image hC (fun u hu => m_image (Bd_of hC) hM (fun u2 hu2 => ⟨rfl, _, hu, hu2, (v_image (Bd_of hC) hW)⟩))
theorem hop_back (hR : RRel M σC σM) : w_X6_back M (fun r u => w_X7_back 20 (fun r2 u2 => r = r2 ∧ RRel M u u2)  σM)  σC := by
  obtain ⟨A, hC, hM, hW⟩ := hR
  exact c_back hW hC (fun u hu => m_back (Bd_of hC) (aKp_le hC) hM (fun u2 hu2 => ⟨rfl, _, hu, hu2, (v_back hW)⟩))
theorem hop_sheet (a1 a2 a3 : Int32) (hR : RRel M σC σM) : w_X6_sheet M (fun r u => w_X7_sheet 20 (fun r2 u2 => r = r2 ∧ RRel M u u2) a1 a2 a3 σM) a1 a2 a3 σC := by
  obtain ⟨A, hC, hM, hW⟩ := hR
  exact c_sheet hC (fun u hu => m_sheet hM (fun u2 hu2 => ⟨rfl, _, hu, hu2, (v_sheet hW)⟩))
theorem hop_cell (a1 a2 a3 : Int32) (hR : RRel M σC σM) : w_X6_cell M (fun r u => w_X7_cell 20 (fun r2 u2 => r = r2 ∧ RRel M u u2) a1 a2 a3 σM) a1 a2 a3 σC := by
  obtain ⟨A, hC, hM, hW⟩ := hR
  exact c_cell hC (fun u hu => m_cell (aSz_le hC) hW hM (fun u2 hu2 => ⟨rfl, _, hu, hu2, (v_cell hW)⟩))
theorem hop_copy (a1 a2 a3 a4 a5 : Int32) (hR : RRel M σC σM) : w_X6_copy M (fun r u => w_X7_copy 20 (fun r2 u2 => r = r2 ∧ RRel M u u2) a1 a2 a3 a4 a5 σM) a1 a2 a3 a4 a5 σC := by
  obtain ⟨A, hC, hM, hW⟩ := hR
  exact c_copy hC (fun u hu => m_copy (aSz_le hC) hW hM (fun u2 hu2 => ⟨rfl, _, hu, hu2, (v_copy hW)⟩))
theorem hop_actsBy (a1 a2 a3 a4 : Int32) (hR : RRel M σC σM) : w_X6_actsBy M (fun r u => w_X7_actsBy 20 (fun r2 u2 => r = r2 ∧ RRel M u u2) a1 a2 a3 a4 σM) a1 a2 a3 a4 σC := by
  obtain ⟨A, hC, hM, hW⟩ := hR
  exact c_actsBy hC (fun u hu => m_actsBy (aSz_le hC) (Bd_of hC) hW hM (fun u2 hu2 => ⟨rfl, _, hu, hu2, (v_actsBy hW)⟩))
theorem hop_taken (a1 a2 : Int32) (hR : RRel M σC σM) : w_X6_taken M (fun r u => w_X7_taken 20 (fun r2 u2 => r = r2 ∧ RRel M u u2) a1 a2 σM) a1 a2 σC := by
  obtain ⟨A, hC, hM, hW⟩ := hR
  exact c_taken hC (m_taken (Bd_of hC) hW hM ⟨rfl, A, hC, hM, hW⟩)
end HOPS
