/-! ## the calls, one by one -/
theorem i_vc_begin {k : Nat} {u : SX} {v : SY} (I : i_Rel k u v) (hk : k + 4 ≤ 2049) (v1 : Int32) : wpX_begin (fun r u' => wpY_begin (fun r' v' => r' = r ∧ i_Rel (k + 4) u' v') v v1) u v1 := by
  obtain ⟨b, cp, w, ca, vc, vt, vv, tt, st, al, sg, sc, ky, vl, pl, wk, wt, wv, L, rfl, rfl, hI, hX, hY⟩ := I
  have R : i_Rel (k + 4) (nI cp, nI b, ca, vc, vt, vv, tt, st, al, sg, sc, ky, vl, pl) (nI cp, nI b, nI w, tt, st, al, sg, sc, ky, vl, pl, ca, wk, wt, wv) := ⟨_, _, _, _, _, _, _, _, _, _, _, _, _, _, _, _, _, _, _, rfl, rfl, hI, hX, hY⟩
  obtain ⟨⟨i1, i1'⟩, i2, i3, i4, i5, i6, i7, i8, i9, i10, i11, i12, i13⟩ := id hI
  by_cases h1 : v1 < 1
  · simp only [wpX_begin, wpX_isTimestamp, wpY_begin, h1, true_implies, false_implies, not_true_eq_false, not_false_eq_true, and_true, true_and, and_self, forall_eq, pc_d1, pc_dm1, pc_dm2, pc_dm3, pc_nb0, pc_nb1]
    exact R
  · by_cases h2 : 1000000 < v1
    · have h3 : ¬ v1 ≤ 1000000 := Int32.not_le.mpr h2
      simp only [wpX_begin, wpX_isTimestamp, wpY_begin, h1, h2, h3, true_implies, false_implies, not_true_eq_false, not_false_eq_true, and_true, true_and, and_self, forall_eq, pc_d1, pc_dm1, pc_dm2, pc_dm3, pc_nb0, pc_nb1]
      exact R
    · have h3 : v1 ≤ 1000000 := Int32.not_lt.mp h2
      by_cases h4 : b < cp
      · have c1 : nI b < nI cp := nI_lt h4 (by omega)
        have c2 : ¬ nI cp ≤ nI b := nI_ge h4 (by omega)
        have c3 : nI b < 8 := nI_lt (b := 8) (by omega) (by decide)
        have c4 : vp_in (nI b) 8 := vp_in_nI (by omega) (by omega)
        have c5 : (nI b).toNatClampNeg = b := nI_clamp (by omega)
        simp only [wpX_begin, wpX_isTimestamp, wpY_begin, h1, h2, h3, c1, c2, c3, c4, c5, true_implies, false_implies, not_true_eq_false, not_false_eq_true, and_true, true_and, and_self, forall_eq, pc_d1, pc_dm1, pc_dm2, pc_dm3, pc_nb0, pc_nb1]
        rw [pc_same (f := sg) (i8 b (Nat.le_refl b)).2.1, pc_same (f := sc) (i8 b (Nat.le_refl b)).1, nI_1]
        exact ⟨_, _, _, _, _, _, _, _, _, _, _, _, _, _, _, _, _, _, _, rfl, rfl, pc_begin hI h4 (Int32.not_lt.mpr (Int32.le_trans (by decide) (Int32.not_lt.mp h1))), hX, hY⟩
      · have c1 : ¬ nI b < nI cp := nI_nlt (by omega) (by omega)
        have c2 : nI cp ≤ nI b := nI_le (by omega) (by omega)
        simp only [wpX_begin, wpX_isTimestamp, wpY_begin, h1, h2, h3, c1, c2, true_implies, false_implies, not_true_eq_false, not_false_eq_true, and_true, true_and, and_self, forall_eq, pc_d1, pc_dm1, pc_dm2, pc_dm3, pc_nb0, pc_nb1]
        exact R
theorem i_vc_stage {k : Nat} {u : SX} {v : SY} (I : i_Rel k u v) (hk : k + 4 ≤ 2049) (v1 : Int32) : wpX_stage (fun r u' => wpY_stage (fun r' v' => r' = r ∧ i_Rel (k + 4) u' v') v v1) u v1 := by
  obtain ⟨b, cp, w, ca, vc, vt, vv, tt, st, al, sg, sc, ky, vl, pl, wk, wt, wv, L, rfl, rfl, hI, hX, hY⟩ := I
  have R : i_Rel (k + 4) (nI cp, nI b, ca, vc, vt, vv, tt, st, al, sg, sc, ky, vl, pl) (nI cp, nI b, nI w, tt, st, al, sg, sc, ky, vl, pl, ca, wk, wt, wv) := ⟨_, _, _, _, _, _, _, _, _, _, _, _, _, _, _, _, _, _, _, rfl, rfl, hI, hX, hY⟩
  obtain ⟨⟨i1, i1'⟩, i2, i3, i4, i5, i6, i7, i8, i9, i10, i11, i12, i13⟩ := id hI
  rcases pc_ix v1 b (by omega) with ⟨h, h'⟩ | ⟨h1, h2, h3, h4⟩ | ⟨t, ht, rfl⟩
  · simp only [wpX_stage, wpX_coordinatorRefusal, wpX_isTxn, wpY_stage, wpY_validTxn, h, true_implies, false_implies, not_true_eq_false, not_false_eq_true, and_true, true_and, and_self, forall_eq, pc_d1, pc_dm1, pc_dm2, pc_dm3, pc_nb0, pc_nb1]
    exact R
  · simp only [wpX_stage, wpX_coordinatorRefusal, wpX_isTxn, wpY_stage, wpY_validTxn, h1, h4, true_implies, false_implies, not_true_eq_false, not_false_eq_true, and_true, true_and, and_self, forall_eq, pc_d1, pc_dm1, pc_dm2, pc_dm3, pc_nb0, pc_nb1]
    exact R
  · have ht8 : t < 8 := by omega
    have et : (nI t).toNatClampNeg = t := nI_clamp (by omega)
    have vt8 : vp_in (nI t) 8 := vp_in_nI ht8 (by omega)
    have f1 : ¬ nI t < 0 := nI_pos (by omega)
    have f2 : ¬ nI b ≤ nI t := nI_ge ht (by omega)
    by_cases hs : st t = 1
    · by_cases ha : al t = 0
      · simp only [wpX_stage, wpX_coordinatorRefusal, wpX_isTxn, wpY_stage, wpY_validTxn, f1, f2, et, vt8, hs, ha, true_implies, false_implies, not_true_eq_false, not_false_eq_true, and_true, true_and, and_self, forall_eq, pc_d1, pc_dm1, pc_dm2, pc_dm3, pc_nb0, pc_nb1]
        exact R
      · by_cases hn : sc t = 0
        · simp only [wpX_stage, wpX_coordinatorRefusal, wpX_isTxn, wpY_stage, wpY_validTxn, f1, f2, et, vt8, hs, ha, hn, true_implies, false_implies, not_true_eq_false, not_false_eq_true, and_true, true_and, and_self, forall_eq, pc_d1, pc_dm1, pc_dm2, pc_dm3, pc_nb0, pc_nb1]
          exact R
        · simp only [wpX_stage, wpX_coordinatorRefusal, wpX_isTxn, wpY_stage, wpY_validTxn, f1, f2, et, vt8, hs, ha, hn, true_implies, false_implies, not_true_eq_false, not_false_eq_true, and_true, true_and, and_self, forall_eq, pc_d1, pc_dm1, pc_dm2, pc_dm3, pc_nb0, pc_nb1]
          exact ⟨_, _, _, _, _, _, _, _, _, _, _, _, _, _, _, _, _, _, _, rfl, rfl, pc_stage hI ht hs, hX, hY⟩
    · simp only [wpX_stage, wpX_coordinatorRefusal, wpX_isTxn, wpY_stage, wpY_validTxn, f1, f2, et, vt8, hs, true_implies, false_implies, not_true_eq_false, not_false_eq_true, and_true, true_and, and_self, forall_eq, pc_d1, pc_dm1, pc_dm2, pc_dm3, pc_nb0, pc_nb1]
      exact R
theorem i_vc_rollback {k : Nat} {u : SX} {v : SY} (I : i_Rel k u v) (hk : k + 4 ≤ 2049) (v1 : Int32) : wpX_rollback (fun r u' => wpY_rollback (fun r' v' => r' = r ∧ i_Rel (k + 4) u' v') v v1) u v1 := by
  obtain ⟨b, cp, w, ca, vc, vt, vv, tt, st, al, sg, sc, ky, vl, pl, wk, wt, wv, L, rfl, rfl, hI, hX, hY⟩ := I
  have R : i_Rel (k + 4) (nI cp, nI b, ca, vc, vt, vv, tt, st, al, sg, sc, ky, vl, pl) (nI cp, nI b, nI w, tt, st, al, sg, sc, ky, vl, pl, ca, wk, wt, wv) := ⟨_, _, _, _, _, _, _, _, _, _, _, _, _, _, _, _, _, _, _, rfl, rfl, hI, hX, hY⟩
  obtain ⟨⟨i1, i1'⟩, i2, i3, i4, i5, i6, i7, i8, i9, i10, i11, i12, i13⟩ := id hI
  rcases pc_ix v1 b (by omega) with ⟨h, h'⟩ | ⟨h1, h2, h3, h4⟩ | ⟨t, ht, rfl⟩
  · simp only [wpX_rollback, wpX_abort, wpX_coordinatorRefusal, wpX_isTxn, wpY_rollback, wpY_decide, wpY_validTxn, h, true_implies, false_implies, not_true_eq_false, not_false_eq_true, and_true, true_and, and_self, forall_eq, pc_d1, pc_dm1, pc_dm2, pc_dm3, pc_nb0, pc_nb1]
    exact R
  · simp only [wpX_rollback, wpX_abort, wpX_coordinatorRefusal, wpX_isTxn, wpY_rollback, wpY_decide, wpY_validTxn, h1, h4, true_implies, false_implies, not_true_eq_false, not_false_eq_true, and_true, true_and, and_self, forall_eq, pc_d1, pc_dm1, pc_dm2, pc_dm3, pc_nb0, pc_nb1]
    exact R
  · have ht8 : t < 8 := by omega
    have et : (nI t).toNatClampNeg = t := nI_clamp (by omega)
    have vt8 : vp_in (nI t) 8 := vp_in_nI ht8 (by omega)
    have f1 : ¬ nI t < 0 := nI_pos (by omega)
    have f2 : ¬ nI b ≤ nI t := nI_ge ht (by omega)
    by_cases hs : st t = 1
    · by_cases ha : al t = 0
      · simp only [wpX_rollback, wpX_abort, wpX_coordinatorRefusal, wpX_isTxn, wpY_rollback, wpY_decide, wpY_validTxn, f1, f2, et, vt8, hs, ha, true_implies, false_implies, not_true_eq_false, not_false_eq_true, and_true, true_and, and_self, forall_eq, pc_d1, pc_dm1, pc_dm2, pc_dm3, pc_nb0, pc_nb1]
        exact R
      · simp only [wpX_rollback, wpX_abort, wpX_coordinatorRefusal, wpX_isTxn, wpY_rollback, wpY_decide, wpY_validTxn, f1, f2, et, vt8, hs, ha, true_implies, false_implies, not_true_eq_false, not_false_eq_true, and_true, true_and, and_self, forall_eq, pc_d1, pc_dm1, pc_dm2, pc_dm3, pc_nb0, pc_nb1]
        exact ⟨_, _, _, _, _, _, _, _, _, _, _, _, _, _, _, _, _, _, _, rfl, rfl, pc_abort hI ht (by rw [hs]; decide), hX, hY⟩
    · simp only [wpX_rollback, wpX_abort, wpX_coordinatorRefusal, wpX_isTxn, wpY_rollback, wpY_decide, wpY_validTxn, f1, f2, et, vt8, hs, true_implies, false_implies, not_true_eq_false, not_false_eq_true, and_true, true_and, and_self, forall_eq, pc_d1, pc_dm1, pc_dm2, pc_dm3, pc_nb0, pc_nb1]
      exact R
theorem i_vc_crash {k : Nat} {u : SX} {v : SY} (I : i_Rel k u v) (hk : k + 4 ≤ 2049) (v1 : Int32) : wpX_crash (fun r u' => wpY_crash (fun r' v' => r' = r ∧ i_Rel (k + 4) u' v') v v1) u v1 := by
  obtain ⟨b, cp, w, ca, vc, vt, vv, tt, st, al, sg, sc, ky, vl, pl, wk, wt, wv, L, rfl, rfl, hI, hX, hY⟩ := I
  have R : i_Rel (k + 4) (nI cp, nI b, ca, vc, vt, vv, tt, st, al, sg, sc, ky, vl, pl) (nI cp, nI b, nI w, tt, st, al, sg, sc, ky, vl, pl, ca, wk, wt, wv) := ⟨_, _, _, _, _, _, _, _, _, _, _, _, _, _, _, _, _, _, _, rfl, rfl, hI, hX, hY⟩
  obtain ⟨⟨i1, i1'⟩, i2, i3, i4, i5, i6, i7, i8, i9, i10, i11, i12, i13⟩ := id hI
  rcases pc_ix v1 b (by omega) with ⟨h, h'⟩ | ⟨h1, h2, h3, h4⟩ | ⟨t, ht, rfl⟩
  · simp only [wpX_crash, wpX_isTxn, wpY_crash, wpY_validTxn, h, true_implies, false_implies, not_true_eq_false, not_false_eq_true, and_true, true_and, and_self, forall_eq, pc_d1, pc_dm1, pc_dm2, pc_dm3, pc_nb0, pc_nb1]
    exact R
  · simp only [wpX_crash, wpX_isTxn, wpY_crash, wpY_validTxn, h1, h4, true_implies, false_implies, not_true_eq_false, not_false_eq_true, and_true, true_and, and_self, forall_eq, pc_d1, pc_dm1, pc_dm2, pc_dm3, pc_nb0, pc_nb1]
    exact R
  · have ht8 : t < 8 := by omega
    have et : (nI t).toNatClampNeg = t := nI_clamp (by omega)
    have vt8 : vp_in (nI t) 8 := vp_in_nI ht8 (by omega)
    have f1 : ¬ nI t < 0 := nI_pos (by omega)
    have f2 : ¬ nI b ≤ nI t := nI_ge ht (by omega)
    by_cases ha : al t = 0
    · simp only [wpX_crash, wpX_isTxn, wpY_crash, wpY_validTxn, f1, f2, et, vt8, ha, true_implies, false_implies, not_true_eq_false, not_false_eq_true, and_true, true_and, and_self, forall_eq, pc_d1, pc_dm1, pc_dm2, pc_dm3, pc_nb0, pc_nb1]
      exact R
    · simp only [wpX_crash, wpX_isTxn, wpY_crash, wpY_validTxn, f1, f2, et, vt8, ha, true_implies, false_implies, not_true_eq_false, not_false_eq_true, and_true, true_and, and_self, forall_eq, pc_d1, pc_dm1, pc_dm2, pc_dm3, pc_nb0, pc_nb1]
      exact ⟨_, _, _, _, _, _, _, _, _, _, _, _, _, _, _, _, _, _, _, rfl, rfl, pc_crash hI, hX, hY⟩
theorem i_vc_status {k : Nat} {u : SX} {v : SY} (I : i_Rel k u v) (hk : k + 4 ≤ 2049) (v1 : Int32) : wpX_status (fun r => wpY_status (fun r' => r' = r ∧ i_Rel (k + 4) u v) v v1) u v1 := by
  obtain ⟨b, cp, w, ca, vc, vt, vv, tt, st, al, sg, sc, ky, vl, pl, wk, wt, wv, L, rfl, rfl, hI, hX, hY⟩ := I
  have R : i_Rel (k + 4) (nI cp, nI b, ca, vc, vt, vv, tt, st, al, sg, sc, ky, vl, pl) (nI cp, nI b, nI w, tt, st, al, sg, sc, ky, vl, pl, ca, wk, wt, wv) := ⟨_, _, _, _, _, _, _, _, _, _, _, _, _, _, _, _, _, _, _, rfl, rfl, hI, hX, hY⟩
  obtain ⟨⟨i1, i1'⟩, i2, i3, i4, i5, i6, i7, i8, i9, i10, i11, i12, i13⟩ := id hI
  rcases pc_ix v1 b (by omega) with ⟨h, h'⟩ | ⟨h1, h2, h3, h4⟩ | ⟨t, ht, rfl⟩
  · simp only [wpX_status, wpX_isTxn, wpY_status, wpY_validTxn, h, true_implies, false_implies, not_true_eq_false, not_false_eq_true, and_true, true_and, and_self, forall_eq, pc_d1, pc_dm1, pc_dm2, pc_dm3, pc_nb0, pc_nb1]
    exact R
  · simp only [wpX_status, wpX_isTxn, wpY_status, wpY_validTxn, h1, h4, true_implies, false_implies, not_true_eq_false, not_false_eq_true, and_true, true_and, and_self, forall_eq, pc_d1, pc_dm1, pc_dm2, pc_dm3, pc_nb0, pc_nb1]
    exact R
  · have ht8 : t < 8 := by omega
    have et : (nI t).toNatClampNeg = t := nI_clamp (by omega)
    have vt8 : vp_in (nI t) 8 := vp_in_nI ht8 (by omega)
    have f1 : ¬ nI t < 0 := nI_pos (by omega)
    have f2 : ¬ nI b ≤ nI t := nI_ge ht (by omega)
    simp only [wpX_status, wpX_isTxn, wpY_status, wpY_validTxn, f1, f2, et, vt8, true_implies, false_implies, not_true_eq_false, not_false_eq_true, and_true, true_and, and_self, forall_eq, pc_d1, pc_dm1, pc_dm2, pc_dm3, pc_nb0, pc_nb1]
    exact R
theorem i_vc_isAlive {k : Nat} {u : SX} {v : SY} (I : i_Rel k u v) (hk : k + 4 ≤ 2049) (v1 : Int32) : wpX_isAlive (fun r => wpY_isAlive (fun r' => r' = r ∧ i_Rel (k + 4) u v) v v1) u v1 := by
  obtain ⟨b, cp, w, ca, vc, vt, vv, tt, st, al, sg, sc, ky, vl, pl, wk, wt, wv, L, rfl, rfl, hI, hX, hY⟩ := I
  have R : i_Rel (k + 4) (nI cp, nI b, ca, vc, vt, vv, tt, st, al, sg, sc, ky, vl, pl) (nI cp, nI b, nI w, tt, st, al, sg, sc, ky, vl, pl, ca, wk, wt, wv) := ⟨_, _, _, _, _, _, _, _, _, _, _, _, _, _, _, _, _, _, _, rfl, rfl, hI, hX, hY⟩
  obtain ⟨⟨i1, i1'⟩, i2, i3, i4, i5, i6, i7, i8, i9, i10, i11, i12, i13⟩ := id hI
  rcases pc_ix v1 b (by omega) with ⟨h, h'⟩ | ⟨h1, h2, h3, h4⟩ | ⟨t, ht, rfl⟩
  · simp only [wpX_isAlive, wpX_isTxn, wpY_isAlive, wpY_validTxn, h, true_implies, false_implies, not_true_eq_false, not_false_eq_true, and_true, true_and, and_self, forall_eq, pc_d1, pc_dm1, pc_dm2, pc_dm3, pc_nb0, pc_nb1]
    exact R
  · simp only [wpX_isAlive, wpX_isTxn, wpY_isAlive, wpY_validTxn, h1, h4, true_implies, false_implies, not_true_eq_false, not_false_eq_true, and_true, true_and, and_self, forall_eq, pc_d1, pc_dm1, pc_dm2, pc_dm3, pc_nb0, pc_nb1]
    exact R
  · have ht8 : t < 8 := by omega
    have et : (nI t).toNatClampNeg = t := nI_clamp (by omega)
    have vt8 : vp_in (nI t) 8 := vp_in_nI ht8 (by omega)
    have f1 : ¬ nI t < 0 := nI_pos (by omega)
    have f2 : ¬ nI b ≤ nI t := nI_ge ht (by omega)
    rcases i5 t with ha | ha
    · simp only [wpX_isAlive, wpX_isTxn, wpY_isAlive, wpY_validTxn, f1, f2, et, vt8, ha, true_implies, false_implies, not_true_eq_false, not_false_eq_true, and_true, true_and, and_self, forall_eq, pc_d1, pc_dm1, pc_dm2, pc_dm3, pc_nb0, pc_nb1]
      exact ⟨rfl, R⟩
    · simp only [wpX_isAlive, wpX_isTxn, wpY_isAlive, wpY_validTxn, f1, f2, et, vt8, ha, true_implies, false_implies, not_true_eq_false, not_false_eq_true, and_true, true_and, and_self, forall_eq, pc_d1, pc_dm1, pc_dm2, pc_dm3, pc_nb0, pc_nb1]
      exact ⟨rfl, R⟩
theorem i_vc_slotTs {k : Nat} {u : SX} {v : SY} (I : i_Rel k u v) (hk : k + 4 ≤ 2049) (v1 : Int32) (v2 : Int32) : wpX_slotTs (fun r => wpY_slotTs (fun r' => r' = r ∧ i_Rel (k + 4) u v) v v1 v2) u v1 v2 := by
  obtain ⟨b, cp, w, ca, vc, vt, vv, tt, st, al, sg, sc, ky, vl, pl, wk, wt, wv, L, rfl, rfl, hI, hX, hY⟩ := I
  have R : i_Rel (k + 4) (nI cp, nI b, ca, vc, vt, vv, tt, st, al, sg, sc, ky, vl, pl) (nI cp, nI b, nI w, tt, st, al, sg, sc, ky, vl, pl, ca, wk, wt, wv) := ⟨_, _, _, _, _, _, _, _, _, _, _, _, _, _, _, _, _, _, _, rfl, rfl, hI, hX, hY⟩
  obtain ⟨⟨i1, i1'⟩, i2, i3, i4, i5, i6, i7, i8, i9, i10, i11, i12, i13⟩ := id hI
  rcases pc_ix v1 b (by omega) with ⟨h, h'⟩ | ⟨h1, h2, h3, h4⟩ | ⟨t, ht, rfl⟩
  · simp only [wpX_slotTs, wpX_isTxn, wpX_isSlot, wpX_cellOf, wpY_slotTs, wpY_validTxn, wpY_validSlot, h, true_implies, false_implies, not_true_eq_false, not_false_eq_true, and_true, true_and, and_self, forall_eq, pc_d1, pc_dm1, pc_dm2, pc_dm3, pc_nb0, pc_nb1]
    exact R
  · simp only [wpX_slotTs, wpX_isTxn, wpX_isSlot, wpX_cellOf, wpY_slotTs, wpY_validTxn, wpY_validSlot, h1, h4, true_implies, false_implies, not_true_eq_false, not_false_eq_true, and_true, true_and, and_self, forall_eq, pc_d1, pc_dm1, pc_dm2, pc_dm3, pc_nb0, pc_nb1]
    exact R
  · have ht8 : t < 8 := by omega
    have et : (nI t).toNatClampNeg = t := nI_clamp (by omega)
    have vt8 : vp_in (nI t) 8 := vp_in_nI ht8 (by omega)
    have f1 : ¬ nI t < 0 := nI_pos (by omega)
    have f2 : ¬ nI b ≤ nI t := nI_ge ht (by omega)
    have n4 := (i7 t).1
    have en := (i7 t).2
    rcases pc_ix v2 (pc_n sc t) (by omega) with ⟨g, g'⟩ | ⟨g1, g2, g3, g4⟩ | ⟨i, hi, rfl⟩
    · simp only [wpX_slotTs, wpX_isTxn, wpX_isSlot, wpX_cellOf, wpY_slotTs, wpY_validTxn, wpY_validSlot, f1, f2, et, vt8, g, true_implies, false_implies, not_true_eq_false, not_false_eq_true, and_true, true_and, and_self, forall_eq, pc_d1, pc_dm1, pc_dm2, pc_dm3, pc_nb0, pc_nb1]
      exact R
    · rw [← en] at g4
      simp only [wpX_slotTs, wpX_isTxn, wpX_isSlot, wpX_cellOf, wpY_slotTs, wpY_validTxn, wpY_validSlot, f1, f2, et, vt8, g1, g4, true_implies, false_implies, not_true_eq_false, not_false_eq_true, and_true, true_and, and_self, forall_eq, pc_d1, pc_dm1, pc_dm2, pc_dm3, pc_nb0, pc_nb1]
      exact R
    · have ec : (nI (t * 4 + i)).toNatClampNeg = t * 4 + i := nI_clamp (by omega)
      have vc32 : vp_in (nI (t * 4 + i)) 32 := vp_in_nI (by omega) (by omega)
      have s1 : ¬ nI i < 0 := nI_pos (by omega)
      have s2 : ¬ sc t ≤ nI i := by rw [en]; exact nI_ge hi (by omega)
      simp only [wpX_slotTs, wpX_isTxn, wpX_isSlot, wpX_cellOf, wpY_slotTs, wpY_validTxn, wpY_validSlot, f1, f2, et, vt8, s1, s2, pc_cell, ec, vc32, true_implies, false_implies, not_true_eq_false, not_false_eq_true, and_true, true_and, and_self, forall_eq, pc_d1, pc_dm1, pc_dm2, pc_dm3, pc_nb0, pc_nb1]
      exact R
theorem i_vc_isImplicitlyCommitted {k : Nat} {u : SX} {v : SY} (I : i_Rel k u v) (hk : k + 4 ≤ 2049) (v1 : Int32) : wpX_isImplicitlyCommitted (fun r => wpY_isImplicitlyCommitted (fun r' => r' = r ∧ i_Rel (k + 4) u v) v v1) u v1 := by
  obtain ⟨b, cp, w, ca, vc, vt, vv, tt, st, al, sg, sc, ky, vl, pl, wk, wt, wv, L, rfl, rfl, hI, hX, hY⟩ := I
  have R : i_Rel (k + 4) (nI cp, nI b, ca, vc, vt, vv, tt, st, al, sg, sc, ky, vl, pl) (nI cp, nI b, nI w, tt, st, al, sg, sc, ky, vl, pl, ca, wk, wt, wv) := ⟨_, _, _, _, _, _, _, _, _, _, _, _, _, _, _, _, _, _, _, rfl, rfl, hI, hX, hY⟩
  obtain ⟨⟨i1, i1'⟩, i2, i3, i4, i5, i6, i7, i8, i9, i10, i11, i12, i13⟩ := id hI
  rcases pc_ix v1 b (by omega) with ⟨h, h'⟩ | ⟨h1, h2, h3, h4⟩ | ⟨t, ht, rfl⟩
  · simp only [wpX_isImplicitlyCommitted, wpX_isTxn, wpY_isImplicitlyCommitted, wpY_validTxn, h, true_implies, false_implies, not_true_eq_false, not_false_eq_true, and_true, true_and, and_self, forall_eq, pc_d1, pc_dm1, pc_dm2, pc_dm3, pc_nb0, pc_nb1]
    exact R
  · simp only [wpX_isImplicitlyCommitted, wpX_isTxn, wpY_isImplicitlyCommitted, wpY_validTxn, h1, h4, true_implies, false_implies, not_true_eq_false, not_false_eq_true, and_true, true_and, and_self, forall_eq, pc_d1, pc_dm1, pc_dm2, pc_dm3, pc_nb0, pc_nb1]
    exact R
  · have ht8 : t < 8 := by omega
    have et : (nI t).toNatClampNeg = t := nI_clamp (by omega)
    have vt8 : vp_in (nI t) 8 := vp_in_nI ht8 (by omega)
    have f1 : ¬ nI t < 0 := nI_pos (by omega)
    have f2 : ¬ nI b ≤ nI t := nI_ge ht (by omega)
    have n4 := (i7 t).1
    have en := (i7 t).2
    by_cases hg : sg t = 0
    · simp only [wpX_isImplicitlyCommitted, wpX_isTxn, wpY_isImplicitlyCommitted, wpY_validTxn, f1, f2, et, vt8, hg, true_implies, false_implies, not_true_eq_false, not_false_eq_true, and_true, true_and, and_self, forall_eq, pc_d1, pc_dm1, pc_dm2, pc_dm3, pc_nb0, pc_nb1]
      exact R
    · simp only [wpX_isImplicitlyCommitted, wpX_isTxn, wpY_isImplicitlyCommitted, wpY_validTxn, f1, f2, et, vt8, hg, true_implies, false_implies, not_true_eq_false, not_false_eq_true, and_true, true_and, and_self, forall_eq, pc_d1, pc_dm1, pc_dm2, pc_dm3, pc_nb0, pc_nb1]
      refine xh_allAt ht8 en n4 (fun hT => ?_) (fun hF => ?_)
      · simp only [true_implies, false_implies, not_true_eq_false, not_false_eq_true, and_true, true_and, and_self, forall_eq, pc_d1, pc_dm1, pc_dm2, pc_dm3, pc_nb0, pc_nb1]
        refine yh_allAt ht8 en n4 (fun _ => ⟨rfl, rfl, R⟩) (fun hF => ?_)
        obtain ⟨i, hi, z⟩ := hF
        exact absurd (hT i hi) z
      · simp only [true_implies, false_implies, not_true_eq_false, not_false_eq_true, and_true, true_and, and_self, forall_eq, pc_d1, pc_dm1, pc_dm2, pc_dm3, pc_nb0, pc_nb1]
        refine yh_allAt ht8 en n4 (fun hT => ?_) (fun _ => ⟨rfl, rfl, R⟩)
        obtain ⟨i, hi, z⟩ := hF
        exact absurd (hT i hi) z
theorem i_vc_tsCache {k : Nat} {u : SX} {v : SY} (I : i_Rel k u v) (hk : k + 4 ≤ 2049) (v1 : Int32) : wpX_tsCache (fun r => wpY_tsCache (fun r' => r' = r ∧ i_Rel (k + 4) u v) v v1) u v1 := by
  obtain ⟨b, cp, w, ca, vc, vt, vv, tt, st, al, sg, sc, ky, vl, pl, wk, wt, wv, L, rfl, rfl, hI, hX, hY⟩ := I
  have R : i_Rel (k + 4) (nI cp, nI b, ca, vc, vt, vv, tt, st, al, sg, sc, ky, vl, pl) (nI cp, nI b, nI w, tt, st, al, sg, sc, ky, vl, pl, ca, wk, wt, wv) := ⟨_, _, _, _, _, _, _, _, _, _, _, _, _, _, _, _, _, _, _, rfl, rfl, hI, hX, hY⟩
  rcases pc_ix v1 16 (by omega) with ⟨h, h'⟩ | ⟨h1, h2, h3, h4⟩ | ⟨q, hq, rfl⟩
  · simp only [wpX_tsCache, wpX_isKey, wpY_tsCache, h, true_implies, false_implies, not_true_eq_false, not_false_eq_true, and_true, true_and, and_self, forall_eq, pc_d1, pc_dm1, pc_dm2, pc_dm3, pc_nb0, pc_nb1]
    exact R
  · have g3 : ¬ v1 < 16 := h3
    have g4 : 16 ≤ v1 := h4
    simp only [wpX_tsCache, wpX_isKey, wpY_tsCache, h1, g3, g4, true_implies, false_implies, not_true_eq_false, not_false_eq_true, and_true, true_and, and_self, forall_eq, pc_d1, pc_dm1, pc_dm2, pc_dm3, pc_nb0, pc_nb1]
    exact R
  · have eq : (nI q).toNatClampNeg = q := nI_clamp (by omega)
    have vq : vp_in (nI q) 16 := vp_in_nI hq (by omega)
    have q1 : ¬ nI q < 0 := nI_pos (by omega)
    have q2 : ¬ 16 ≤ nI q := nI_ge (b := 16) hq (by decide)
    have q3 : nI q < 16 := nI_lt (b := 16) hq (by decide)
    simp only [wpX_tsCache, wpX_isKey, wpY_tsCache, q1, q2, q3, eq, vq, true_implies, false_implies, not_true_eq_false, not_false_eq_true, and_true, true_and, and_self, forall_eq, pc_d1, pc_dm1, pc_dm2, pc_dm3, pc_nb0, pc_nb1]
    exact R
