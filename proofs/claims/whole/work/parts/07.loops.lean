/-! ## the calls with loops -/
theorem i_vc_addWrite {k : Nat} {u : SX} {v : SY} (I : i_Rel k u v) (hk : k + 4 ≤ 2049) (v1 : Int32) (v2 : Int32) (v3 : Int32) : wpX_addWrite (fun r u' => wpY_addWrite (fun r' v' => r' = r ∧ i_Rel (k + 4) u' v') v v1 v2 v3) u v1 v2 v3 := by
  obtain ⟨b, cp, w, ca, vc, vt, vv, tt, st, al, sg, sc, ky, vl, pl, wk, wt, wv, L, rfl, rfl, hI, hX, hY⟩ := I
  have R : i_Rel (k + 4) (nI cp, nI b, ca, vc, vt, vv, tt, st, al, sg, sc, ky, vl, pl) (nI cp, nI b, nI w, tt, st, al, sg, sc, ky, vl, pl, ca, wk, wt, wv) := ⟨_, _, _, _, _, _, _, _, _, _, _, _, _, _, _, _, _, _, _, rfl, rfl, hI, hX, hY⟩
  obtain ⟨⟨i1, i1'⟩, i2, i3, i4, i5, i6, i7, i8, i9, i10, i11, i12, i13⟩ := id hI
  rcases pc_ix v1 b (by omega) with ⟨h, h'⟩ | ⟨h1, h2, h3, h4⟩ | ⟨t, ht, rfl⟩
  · simp only [wpX_addWrite, wpX_coordinatorRefusal, wpX_isTxn, wpX_isKey, wpX_cellOf, wpY_addWrite, wpY_validTxn, h, true_implies, false_implies, not_true_eq_false, not_false_eq_true, and_true, true_and, and_self, forall_eq, pc_d1, pc_dm1, pc_dm2, pc_dm3, pc_nb0, pc_nb1]
    exact R
  · simp only [wpX_addWrite, wpX_coordinatorRefusal, wpX_isTxn, wpX_isKey, wpX_cellOf, wpY_addWrite, wpY_validTxn, h1, h4, true_implies, false_implies, not_true_eq_false, not_false_eq_true, and_true, true_and, and_self, forall_eq, pc_d1, pc_dm1, pc_dm2, pc_dm3, pc_nb0, pc_nb1]
    exact R
  · have ht8 : t < 8 := by omega
    have et : (nI t).toNatClampNeg = t := nI_clamp (by omega)
    have vt8 : vp_in (nI t) 8 := vp_in_nI ht8 (by omega)
    have f1 : ¬ nI t < 0 := nI_pos (by omega)
    have f2 : ¬ nI b ≤ nI t := nI_ge ht (by omega)
    have n4 := (i7 t).1
    have en := (i7 t).2
    by_cases hs : st t = 1
    · by_cases ha : al t = 0
      · simp only [wpX_addWrite, wpX_coordinatorRefusal, wpX_isTxn, wpX_isKey, wpX_cellOf, wpY_addWrite, wpY_validTxn, f1, f2, et, vt8, hs, ha, true_implies, false_implies, not_true_eq_false, not_false_eq_true, and_true, true_and, and_self, forall_eq, pc_d1, pc_dm1, pc_dm2, pc_dm3, pc_nb0, pc_nb1]
        exact R
      · rcases pc_ix v2 16 (by omega) with ⟨g, g'⟩ | ⟨g1, g2, g3, g4⟩ | ⟨q, hq, rfl⟩
        · simp only [wpX_addWrite, wpX_coordinatorRefusal, wpX_isTxn, wpX_isKey, wpX_cellOf, wpY_addWrite, wpY_validTxn, f1, f2, et, vt8, hs, ha, g, true_implies, false_implies, not_true_eq_false, not_false_eq_true, and_true, true_and, and_self, forall_eq, pc_d1, pc_dm1, pc_dm2, pc_dm3, pc_nb0, pc_nb1]
          exact R
        · have g5 : 16 ≤ v2 := g4
          simp only [wpX_addWrite, wpX_coordinatorRefusal, wpX_isTxn, wpX_isKey, wpX_cellOf, wpY_addWrite, wpY_validTxn, f1, f2, et, vt8, hs, ha, g1, g5, true_implies, false_implies, not_true_eq_false, not_false_eq_true, and_true, true_and, and_self, forall_eq, pc_d1, pc_dm1, pc_dm2, pc_dm3, pc_nb0, pc_nb1]
          exact R
        · have q1 : ¬ nI q < 0 := nI_pos (by omega)
          have q2 : ¬ 16 ≤ nI q := nI_ge (b := 16) hq (by decide)
          by_cases b1 : v3 < 0
          · simp only [wpX_addWrite, wpX_coordinatorRefusal, wpX_isTxn, wpX_isKey, wpX_cellOf, wpY_addWrite, wpY_validTxn, f1, f2, et, vt8, hs, ha, q1, q2, b1, true_implies, false_implies, not_true_eq_false, not_false_eq_true, and_true, true_and, and_self, forall_eq, pc_d1, pc_dm1, pc_dm2, pc_dm3, pc_nb0, pc_nb1]
            exact R
          · by_cases b2 : v3 ≤ 32767
            · simp only [wpX_addWrite, wpX_coordinatorRefusal, wpX_isTxn, wpX_isKey, wpX_cellOf, wpY_addWrite, wpY_validTxn, f1, f2, et, vt8, hs, ha, q1, q2, b1, b2, true_implies, false_implies, not_true_eq_false, not_false_eq_true, and_true, true_and, and_self, forall_eq, pc_d1, pc_dm1, pc_dm2, pc_dm3, pc_nb0, pc_nb1]
              refine xh_writesKey ht8 en n4 (fun hT => ?_) (fun hF => ?_)
              · simp only [true_implies, false_implies, not_true_eq_false, not_false_eq_true, and_true, true_and, and_self, forall_eq, pc_d1, pc_dm1, pc_dm2, pc_dm3, pc_nb0, pc_nb1]
                refine yh_add ht8 en n4 (fun _ => ⟨rfl, R⟩) (fun hF => ?_)
                obtain ⟨i, hi, z⟩ := hT
                exact absurd z (hF i hi)
              · by_cases n5 : pc_n sc t < 4
                · have c1 : sc t < 4 := by rw [en]; exact nI_lt (b := 4) n5 (by decide)
                  generalize hg : pc_n sc t = n at *
                  have ec : (nI (t * 4 + n)).toNatClampNeg = t * 4 + n := nI_clamp (by omega)
                  have vc32 : vp_in (nI (t * 4 + n)) 32 := vp_in_nI (by omega) (by omega)
                  simp only [c1, vt8, true_implies, false_implies, not_true_eq_false, not_false_eq_true, and_true, true_and, and_self, forall_eq, pc_d1, pc_dm1, pc_dm2, pc_dm3, pc_nb0, pc_nb1]
                  simp only [en, pc_cell, ec, vc32, true_implies, false_implies, not_true_eq_false, not_false_eq_true, and_true, true_and, and_self, forall_eq, pc_d1, pc_dm1, pc_dm2, pc_dm3, pc_nb0, pc_nb1]
                  refine yh_add ht8 en n4 (fun hT => ?_) (fun _ => ?_)
                  · obtain ⟨i, hi, z⟩ := hT
                    exact absurd z (hF i hi)
                  · have c2 : nI n < 4 := nI_lt (b := 4) n5 (by decide)
                    simp only [wY_addWrite_103, et, vt8, en, c2, pc_cell, ec, vc32, nI_1, true_implies, false_implies, not_true_eq_false, not_false_eq_true, and_true, true_and, and_self, forall_eq, pc_d1, pc_dm1, pc_dm2, pc_dm3, pc_nb0, pc_nb1]
                    rw [pc_same (f := pl) (i11 t n (by omega) n5)]
                    exact ⟨_, _, _, _, _, _, _, _, _, _, _, _, _, _, _, _, _, _, _, rfl, rfl, pc_add hI ht en n5 hq hF, hX, hY⟩
                · have c1 : ¬ sc t < 4 := by rw [en]; exact nI_nlt (b := 4) (by omega) (by omega)
                  simp only [vt8, c1, true_implies, false_implies, not_true_eq_false, not_false_eq_true, and_true, true_and, and_self, forall_eq, pc_d1, pc_dm1, pc_dm2, pc_dm3, pc_nb0, pc_nb1]
                  refine yh_add ht8 en n4 (fun hT => ?_) (fun _ => ?_)
                  · obtain ⟨i, hi, z⟩ := hT
                    exact absurd z (hF i hi)
                  · simp only [wY_addWrite_103, et, vt8, c1, true_implies, false_implies, not_true_eq_false, not_false_eq_true, and_true, true_and, and_self, forall_eq, pc_d1, pc_dm1, pc_dm2, pc_dm3, pc_nb0, pc_nb1]
                    exact R
            · simp only [wpX_addWrite, wpX_coordinatorRefusal, wpX_isTxn, wpX_isKey, wpX_cellOf, wpY_addWrite, wpY_validTxn, f1, f2, et, vt8, hs, ha, q1, q2, b1, b2, true_implies, false_implies, not_true_eq_false, not_false_eq_true, and_true, true_and, and_self, forall_eq, pc_d1, pc_dm1, pc_dm2, pc_dm3, pc_nb0, pc_nb1]
              exact R
    · simp only [wpX_addWrite, wpX_coordinatorRefusal, wpX_isTxn, wpX_isKey, wpX_cellOf, wpY_addWrite, wpY_validTxn, f1, f2, et, vt8, hs, true_implies, false_implies, not_true_eq_false, not_false_eq_true, and_true, true_and, and_self, forall_eq, pc_d1, pc_dm1, pc_dm2, pc_dm3, pc_nb0, pc_nb1]
      exact R
theorem i_vc_probe {k : Nat} {u : SX} {v : SY} (I : i_Rel k u v) (hk : k + 4 ≤ 2049) (v1 : Int32) (v2 : Int32) : wpX_probe (fun r u' => wpY_probe (fun r' v' => r' = r ∧ i_Rel (k + 4) u' v') v v1 v2) u v1 v2 := by
  obtain ⟨b, cp, w, ca, vc, vt, vv, tt, st, al, sg, sc, ky, vl, pl, wk, wt, wv, L, rfl, rfl, hI, hX, hY⟩ := I
  have R : i_Rel (k + 4) (nI cp, nI b, ca, vc, vt, vv, tt, st, al, sg, sc, ky, vl, pl) (nI cp, nI b, nI w, tt, st, al, sg, sc, ky, vl, pl, ca, wk, wt, wv) := ⟨_, _, _, _, _, _, _, _, _, _, _, _, _, _, _, _, _, _, _, rfl, rfl, hI, hX, hY⟩
  obtain ⟨⟨i1, i1'⟩, i2, i3, i4, i5, i6, i7, i8, i9, i10, i11, i12, i13⟩ := id hI
  rcases pc_ix v1 b (by omega) with ⟨h, h'⟩ | ⟨h1, h2, h3, h4⟩ | ⟨t, ht, rfl⟩
  · simp only [wpX_probe, wpX_isTxn, wpX_isSlot, wpX_isDelivered, wpX_deliveredState, wpX_cellOf, wpY_probe, wpY_validTxn, wpY_validSlot, h, true_implies, false_implies, not_true_eq_false, not_false_eq_true, and_true, true_and, and_self, forall_eq, pc_d1, pc_dm1, pc_dm2, pc_dm3, pc_nb0, pc_nb1]
    exact R
  · simp only [wpX_probe, wpX_isTxn, wpX_isSlot, wpX_isDelivered, wpX_deliveredState, wpX_cellOf, wpY_probe, wpY_validTxn, wpY_validSlot, h1, h4, true_implies, false_implies, not_true_eq_false, not_false_eq_true, and_true, true_and, and_self, forall_eq, pc_d1, pc_dm1, pc_dm2, pc_dm3, pc_nb0, pc_nb1]
    exact R
  · have ht8 : t < 8 := by omega
    have et : (nI t).toNatClampNeg = t := nI_clamp (by omega)
    have vt8 : vp_in (nI t) 8 := vp_in_nI ht8 (by omega)
    have f1 : ¬ nI t < 0 := nI_pos (by omega)
    have f2 : ¬ nI b ≤ nI t := nI_ge ht (by omega)
    have n4 := (i7 t).1
    have en := (i7 t).2
    by_cases hs : st t = 2
    · rcases pc_ix v2 (pc_n sc t) (by omega) with ⟨g, g'⟩ | ⟨g1, g2, g3, g4⟩ | ⟨i, hi, rfl⟩
      · simp only [wpX_probe, wpX_isTxn, wpX_isSlot, wpX_isDelivered, wpX_deliveredState, wpX_cellOf, wpY_probe, wpY_validTxn, wpY_validSlot, f1, f2, et, vt8, hs, g, true_implies, false_implies, not_true_eq_false, not_false_eq_true, and_true, true_and, and_self, forall_eq, pc_d1, pc_dm1, pc_dm2, pc_dm3, pc_nb0, pc_nb1]
        exact R
      · rw [← en] at g4
        simp only [wpX_probe, wpX_isTxn, wpX_isSlot, wpX_isDelivered, wpX_deliveredState, wpX_cellOf, wpY_probe, wpY_validTxn, wpY_validSlot, f1, f2, et, vt8, hs, g1, g4, true_implies, false_implies, not_true_eq_false, not_false_eq_true, and_true, true_and, and_self, forall_eq, pc_d1, pc_dm1, pc_dm2, pc_dm3, pc_nb0, pc_nb1]
        exact R
      · have ec : (nI (t * 4 + i)).toNatClampNeg = t * 4 + i := nI_clamp (by omega)
        have vc32 : vp_in (nI (t * 4 + i)) 32 := vp_in_nI (by omega) (by omega)
        have s1 : ¬ nI i < 0 := nI_pos (by omega)
        have s2 : ¬ sc t ≤ nI i := by rw [en]; exact nI_ge hi (by omega)
        by_cases hz : pl (t * 4 + i) = 0
        · simp only [wpX_probe, wpX_isTxn, wpX_isSlot, wpX_isDelivered, wpX_deliveredState, wpX_cellOf, wpY_probe, wpY_validTxn, wpY_validSlot, f1, f2, et, vt8, hs, s1, s2, pc_cell, ec, vc32, hz, true_implies, false_implies, not_true_eq_false, not_false_eq_true, and_true, true_and, and_self, forall_eq, pc_d1, pc_dm1, pc_dm2, pc_dm3, pc_nb0, pc_nb1]
          refine xh_prevent ht8 (by omega) i9 ?_
          refine yh_prevent ht8 (by omega) i9 ?_
          exact ⟨_, _, _, _, _, _, _, _, _, _, _, _, _, _, _, _, _, _, _, rfl, rfl, pc_raI hI (i3 t), hX, hY⟩
        · by_cases ha : pl (t * 4 + i) = tt t
          · simp only [wpX_probe, wpX_isTxn, wpX_isSlot, wpX_isDelivered, wpX_deliveredState, wpX_cellOf, wpY_probe, wpY_validTxn, wpY_validSlot, f1, f2, et, vt8, hs, s1, s2, pc_cell, ec, vc32, hz, ha, true_implies, false_implies, not_true_eq_false, not_false_eq_true, and_true, true_and, and_self, forall_eq, pc_d1, pc_dm1, pc_dm2, pc_dm3, pc_nb0, pc_nb1]
            rw [ha] at hz
            simp only [hz, true_implies, false_implies, not_true_eq_false, not_false_eq_true, and_true, true_and, and_self, forall_eq, pc_d1, pc_dm1, pc_dm2, pc_dm3, pc_nb0, pc_nb1]
            exact R
          · simp only [wpX_probe, wpX_isTxn, wpX_isSlot, wpX_isDelivered, wpX_deliveredState, wpX_cellOf, wpY_probe, wpY_validTxn, wpY_validSlot, f1, f2, et, vt8, hs, s1, s2, pc_cell, ec, vc32, hz, ha, true_implies, false_implies, not_true_eq_false, not_false_eq_true, and_true, true_and, and_self, forall_eq, pc_d1, pc_dm1, pc_dm2, pc_dm3, pc_nb0, pc_nb1]
            exact R
    · simp only [wpX_probe, wpX_isTxn, wpX_isSlot, wpX_isDelivered, wpX_deliveredState, wpX_cellOf, wpY_probe, wpY_validTxn, wpY_validSlot, f1, f2, et, vt8, hs, true_implies, false_implies, not_true_eq_false, not_false_eq_true, and_true, true_and, and_self, forall_eq, pc_d1, pc_dm1, pc_dm2, pc_dm3, pc_nb0, pc_nb1]
      exact R
theorem i_vc_slotState {k : Nat} {u : SX} {v : SY} (I : i_Rel k u v) (hk : k + 4 ≤ 2049) (v1 : Int32) (v2 : Int32) : wpX_slotState (fun r => wpY_slotState (fun r' => r' = r ∧ i_Rel (k + 4) u v) v v1 v2) u v1 v2 := by
  obtain ⟨b, cp, w, ca, vc, vt, vv, tt, st, al, sg, sc, ky, vl, pl, wk, wt, wv, L, rfl, rfl, hI, hX, hY⟩ := I
  have R : i_Rel (k + 4) (nI cp, nI b, ca, vc, vt, vv, tt, st, al, sg, sc, ky, vl, pl) (nI cp, nI b, nI w, tt, st, al, sg, sc, ky, vl, pl, ca, wk, wt, wv) := ⟨_, _, _, _, _, _, _, _, _, _, _, _, _, _, _, _, _, _, _, rfl, rfl, hI, hX, hY⟩
  obtain ⟨⟨i1, i1'⟩, i2, i3, i4, i5, i6, i7, i8, i9, i10, i11, i12, i13⟩ := id hI
  have w32 : w ≤ 32 := by have := pc_cn_le st 8; omega
  rcases pc_ix v1 b (by omega) with ⟨h, h'⟩ | ⟨h1, h2, h3, h4⟩ | ⟨t, ht, rfl⟩
  · simp only [wpX_slotState, wpX_isTxn, wpX_isSlot, wpX_isDelivered, wpX_deliveredState, wpX_cellOf, wpY_slotState, wpY_validTxn, wpY_validSlot, h, true_implies, false_implies, not_true_eq_false, not_false_eq_true, and_true, true_and, and_self, forall_eq, pc_d1, pc_dm1, pc_dm2, pc_dm3, pc_nb0, pc_nb1]
    exact R
  · simp only [wpX_slotState, wpX_isTxn, wpX_isSlot, wpX_isDelivered, wpX_deliveredState, wpX_cellOf, wpY_slotState, wpY_validTxn, wpY_validSlot, h1, h4, true_implies, false_implies, not_true_eq_false, not_false_eq_true, and_true, true_and, and_self, forall_eq, pc_d1, pc_dm1, pc_dm2, pc_dm3, pc_nb0, pc_nb1]
    exact R
  · have ht8 : t < 8 := by omega
    have et : (nI t).toNatClampNeg = t := nI_clamp (by omega)
    have vt8 : vp_in (nI t) 8 := vp_in_nI ht8 (by omega)
    have f1 : ¬ nI t < 0 := nI_pos (by omega)
    have f2 : ¬ nI b ≤ nI t := nI_ge ht (by omega)
    have n4 := (i7 t).1
    have en := (i7 t).2
    rcases pc_ix v2 (pc_n sc t) (by omega) with ⟨g, g'⟩ | ⟨g1, g2, g3, g4⟩ | ⟨i, hi, rfl⟩
    · simp only [wpX_slotState, wpX_isTxn, wpX_isSlot, wpX_isDelivered, wpX_deliveredState, wpX_cellOf, wpY_slotState, wpY_validTxn, wpY_validSlot, f1, f2, et, vt8, g, true_implies, false_implies, not_true_eq_false, not_false_eq_true, and_true, true_and, and_self, forall_eq, pc_d1, pc_dm1, pc_dm2, pc_dm3, pc_nb0, pc_nb1]
      exact R
    · rw [← en] at g4
      simp only [wpX_slotState, wpX_isTxn, wpX_isSlot, wpX_isDelivered, wpX_deliveredState, wpX_cellOf, wpY_slotState, wpY_validTxn, wpY_validSlot, f1, f2, et, vt8, g1, g4, true_implies, false_implies, not_true_eq_false, not_false_eq_true, and_true, true_and, and_self, forall_eq, pc_d1, pc_dm1, pc_dm2, pc_dm3, pc_nb0, pc_nb1]
      exact R
    · have ec : (nI (t * 4 + i)).toNatClampNeg = t * 4 + i := nI_clamp (by omega)
      have vc32 : vp_in (nI (t * 4 + i)) 32 := vp_in_nI (by omega) (by omega)
      have s1 : ¬ nI i < 0 := nI_pos (by omega)
      have s2 : ¬ sc t ≤ nI i := by rw [en]; exact nI_ge hi (by omega)
      by_cases hz : pl (t * 4 + i) = 0
      · obtain ⟨q, hq, ek⟩ := i9 (t * 4 + i)
        simp only [wpX_slotState, wpX_isTxn, wpX_isSlot, wpX_isDelivered, wpX_deliveredState, wpX_cellOf, wpY_slotState, wpY_validTxn, wpY_validSlot, f1, f2, et, vt8, s1, s2, pc_cell, ec, vc32, hz, ek, true_implies, false_implies, not_true_eq_false, not_false_eq_true, and_true, true_and, and_self, forall_eq, pc_d1, pc_dm1, pc_dm2, pc_dm3, pc_nb0, pc_nb1]
        refine xh_floorOf hq hX ?_
        refine br_c (fun z => yh_floorOf hq w32 (i2 q) hY (br_t z R)) (fun z => yh_floorOf hq w32 (i2 q) hY (br_f z R))
      · by_cases ha : pl (t * 4 + i) = tt t
        · rw [ha] at hz
          simp only [wpX_slotState, wpX_isTxn, wpX_isSlot, wpX_isDelivered, wpX_deliveredState, wpX_cellOf, wpY_slotState, wpY_validTxn, wpY_validSlot, f1, f2, et, vt8, s1, s2, pc_cell, ec, vc32, ha, hz, true_implies, false_implies, not_true_eq_false, not_false_eq_true, and_true, true_and, and_self, forall_eq, pc_d1, pc_dm1, pc_dm2, pc_dm3, pc_nb0, pc_nb1]
          exact R
        · simp only [wpX_slotState, wpX_isTxn, wpX_isSlot, wpX_isDelivered, wpX_deliveredState, wpX_cellOf, wpY_slotState, wpY_validTxn, wpY_validSlot, f1, f2, et, vt8, s1, s2, pc_cell, ec, vc32, hz, ha, true_implies, false_implies, not_true_eq_false, not_false_eq_true, and_true, true_and, and_self, forall_eq, pc_d1, pc_dm1, pc_dm2, pc_dm3, pc_nb0, pc_nb1]
          exact R
