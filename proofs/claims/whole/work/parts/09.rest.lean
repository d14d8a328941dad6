/-! ## finalize, recover, read -/
theorem pc_cell_eq {b : Nat} {st sc ky pl : Nat → Int32} {k : Int32} {t i s j : Nat} (hd : ∀ t i j, i < j → j < pc_n sc t → ¬ ky (t * 4 + i) = ky (t * 4 + j)) (ht : t < b) (hs : s < b)
    (h1 : pc_hit st sc ky pl k t i) (h1' : ∀ r, r < t → ∀ m, ¬ pc_hit st sc ky pl k r m) (h2 : pc_hit st sc ky pl k s j) (h2' : ∀ r, r < s → ∀ m, ¬ pc_hit st sc ky pl k r m) : s * 4 + j = t * 4 + i := by
  have e : s = t := by
    rcases Nat.lt_trichotomy s t with g | g | g
    · exact absurd h2 (h1' s g j)
    · exact g
    · exact absurd h1 (h2' t g i)
  subst e
  rcases Nat.lt_trichotomy i j with g | g | g
  · exact absurd (h1.2.2.2.trans h2.2.2.2.symm) (hd s i j g h2.2.1)
  · rw [g]
  · exact absurd (h2.2.2.2.trans h1.2.2.2.symm) (hd s j i g h1.2.1)
theorem i_vc_finalize {k : Nat} {u : SX} {v : SY} (I : i_Rel k u v) (hk : k + 4 ≤ 2049) (v1 : Int32) : wpX_finalize (fun r u' => wpY_finalize (fun r' v' => r' = r ∧ i_Rel (k + 4) u' v') v v1) u v1 := by
  obtain ⟨b, cp, w, ca, vc, vt, vv, tt, st, al, sg, sc, ky, vl, pl, wk, wt, wv, L, rfl, rfl, hI, hX, hY⟩ := I
  have R : i_Rel (k + 4) (nI cp, nI b, ca, vc, vt, vv, tt, st, al, sg, sc, ky, vl, pl) (nI cp, nI b, nI w, tt, st, al, sg, sc, ky, vl, pl, ca, wk, wt, wv) := ⟨_, _, _, _, _, _, _, _, _, _, _, _, _, _, _, _, _, _, _, rfl, rfl, hI, hX, hY⟩
  obtain ⟨⟨i1, i1'⟩, i2, i3, i4, i5, i6, i7, i8, i9, i10, i11, i12, i13⟩ := id hI
  rcases pc_ix v1 b (by omega) with ⟨h, h'⟩ | ⟨h1, h2, h3, h4⟩ | ⟨t, ht, rfl⟩
  · simp only [wpX_finalize, wpX_coordinatorRefusal, wpX_isTxn, wpY_finalize, wpY_validTxn, h, true_implies, false_implies, not_true_eq_false, not_false_eq_true, and_true, true_and, and_self, forall_eq, pc_d1, pc_dm1, pc_dm2, pc_dm3, pc_nb0, pc_nb1]
    exact R
  · simp only [wpX_finalize, wpX_coordinatorRefusal, wpX_isTxn, wpY_finalize, wpY_validTxn, h1, h4, true_implies, false_implies, not_true_eq_false, not_false_eq_true, and_true, true_and, and_self, forall_eq, pc_d1, pc_dm1, pc_dm2, pc_dm3, pc_nb0, pc_nb1]
    exact R
  · have ht8 : t < 8 := by omega
    have et : (nI t).toNatClampNeg = t := nI_clamp (by omega)
    have vt8 : vp_in (nI t) 8 := vp_in_nI ht8 (by omega)
    have f1 : ¬ nI t < 0 := nI_pos (by omega)
    have f2 : ¬ nI b ≤ nI t := nI_ge ht (by omega)
    have n4 := (i7 t).1
    have en := (i7 t).2
    by_cases hs : st t = 2
    · by_cases ha : al t = 0
      · simp only [wpX_finalize, wpX_coordinatorRefusal, wpX_isTxn, wpY_finalize, wpY_validTxn, f1, f2, et, vt8, hs, ha, true_implies, false_implies, not_true_eq_false, not_false_eq_true, and_true, true_and, and_self, forall_eq, pc_d1, pc_dm1, pc_dm2, pc_dm3, pc_nb0, pc_nb1]
        exact R
      · have s3 : ¬ st t = 3 := by rw [hs]; decide
        have c7 := pc_cn_lt s3 8 ht8
        simp only [wpX_finalize, wpX_coordinatorRefusal, wpX_isTxn, wpY_finalize, wpY_validTxn, f1, f2, et, vt8, hs, ha, true_implies, false_implies, not_true_eq_false, not_false_eq_true, and_true, true_and, and_self, forall_eq, pc_d1, pc_dm1, pc_dm2, pc_dm3, pc_nb0, pc_nb1]
        refine xh_allDel ht8 en n4 (fun hT => ?_) (fun hF => ?_)
        · refine br_f (by decide) (xh_decide ht8 en n4 i9 (i10 t) hX (fun q => by have := i12 q; omega) (fun hA => ?_) (fun hC vc' vt' vv' hX' => ?_))
          · refine yh_del ht8 en n4 (fun z => ?_) (fun _ => yh_fin ht8 en n4 (by omega) hY (fun _ => ⟨rfl, _, _, _, _, _, _, _, _, _, _, _, _, _, _, _, _, _, _, _, rfl, rfl, pc_abort hI ht s3, hX, hY⟩) (fun hC => ?_))
            · obtain ⟨i, hi, y⟩ := z
              exact absurd y (hT i hi)
            · obtain ⟨i, hi, y⟩ := hA
              exact absurd (hC i hi) y
          · refine yh_del ht8 en n4 (fun z => ?_) (fun _ => yh_fin ht8 en n4 (by omega) hY (fun hA => ?_) (fun _ wk' wt' wv' hY' => ⟨rfl, _, _, _, _, _, _, _, _, _, _, _, _, _, _, _, _, _, _, _, rfl, rfl, pc_commit hI ht s3 en n4, hX', hY'⟩))
            · obtain ⟨i, hi, y⟩ := z
              exact absurd y (hT i hi)
            · obtain ⟨i, hi, y⟩ := hA
              exact absurd (hC i hi) y
        · refine br_t (by trivial) (yh_del ht8 en n4 (fun _ => ⟨rfl, R⟩) (fun hT => ?_))
          obtain ⟨i, hi, y⟩ := hF
          exact absurd y (hT i hi)
    · simp only [wpX_finalize, wpX_coordinatorRefusal, wpX_isTxn, wpY_finalize, wpY_validTxn, f1, f2, et, vt8, hs, true_implies, false_implies, not_true_eq_false, not_false_eq_true, and_true, true_and, and_self, forall_eq, pc_d1, pc_dm1, pc_dm2, pc_dm3, pc_nb0, pc_nb1]
      exact R
theorem i_vc_recover {k : Nat} {u : SX} {v : SY} (I : i_Rel k u v) (hk : k + 4 ≤ 2049) (v1 : Int32) : wpX_recover (fun r u' => wpY_recover (fun r' v' => r' = r ∧ i_Rel (k + 4) u' v') v v1) u v1 := by
  obtain ⟨b, cp, w, ca, vc, vt, vv, tt, st, al, sg, sc, ky, vl, pl, wk, wt, wv, L, rfl, rfl, hI, hX, hY⟩ := I
  have R : i_Rel (k + 4) (nI cp, nI b, ca, vc, vt, vv, tt, st, al, sg, sc, ky, vl, pl) (nI cp, nI b, nI w, tt, st, al, sg, sc, ky, vl, pl, ca, wk, wt, wv) := ⟨_, _, _, _, _, _, _, _, _, _, _, _, _, _, _, _, _, _, _, rfl, rfl, hI, hX, hY⟩
  obtain ⟨⟨i1, i1'⟩, i2, i3, i4, i5, i6, i7, i8, i9, i10, i11, i12, i13⟩ := id hI
  rcases pc_ix v1 b (by omega) with ⟨h, h'⟩ | ⟨h1, h2, h3, h4⟩ | ⟨t, ht, rfl⟩
  · simp only [wpX_recover, wpX_isTxn, wpX_isDecided, wpX_abort, wpY_recover, wpY_validTxn, wpY_undecided, wpY_decide, h, true_implies, false_implies, not_true_eq_false, not_false_eq_true, and_true, true_and, and_self, forall_eq, pc_d1, pc_dm1, pc_dm2, pc_dm3, pc_nb0, pc_nb1]
    exact R
  · simp only [wpX_recover, wpX_isTxn, wpX_isDecided, wpX_abort, wpY_recover, wpY_validTxn, wpY_undecided, wpY_decide, h1, h4, true_implies, false_implies, not_true_eq_false, not_false_eq_true, and_true, true_and, and_self, forall_eq, pc_d1, pc_dm1, pc_dm2, pc_dm3, pc_nb0, pc_nb1]
    exact R
  · have ht8 : t < 8 := by omega
    have et : (nI t).toNatClampNeg = t := nI_clamp (by omega)
    have vt8 : vp_in (nI t) 8 := vp_in_nI ht8 (by omega)
    have f1 : ¬ nI t < 0 := nI_pos (by omega)
    have f2 : ¬ nI b ≤ nI t := nI_ge ht (by omega)
    have n4 := (i7 t).1
    have en := (i7 t).2
    rcases i4 t ht with y | y | y | y
    · have y3 : ¬ st t = 3 := by rw [y]; decide
      have y4 : ¬ st t = 4 := by rw [y]; decide
      simp only [wpX_recover, wpX_isTxn, wpX_isDecided, wpX_abort, f1, f2, et, vt8, y3, y4, true_implies, false_implies, not_true_eq_false, not_false_eq_true, and_true, true_and, and_self, forall_eq, pc_d1, pc_dm1, pc_dm2, pc_dm3, pc_nb0, pc_nb1]
      simp only [y, true_implies, false_implies, not_true_eq_false, not_false_eq_true, and_true, true_and, and_self, forall_eq, pc_d1, pc_dm1, pc_dm2, pc_dm3, pc_nb0, pc_nb1]
      simp only [wpY_recover, wpY_validTxn, wpY_undecided, wpY_decide, f1, f2, et, vt8, y, true_implies, false_implies, not_true_eq_false, not_false_eq_true, and_true, true_and, and_self, forall_eq, pc_d1, pc_dm1, pc_dm2, pc_dm3, pc_nb0, pc_nb1]
      exact ⟨_, _, _, _, _, _, _, _, _, _, _, _, _, _, _, _, _, _, _, rfl, rfl, pc_abort hI ht y3, hX, hY⟩
    · have y1 : ¬ st t = 1 := by rw [y]; decide
      have y3 : ¬ st t = 3 := by rw [y]; decide
      have y4 : ¬ st t = 4 := by rw [y]; decide
      have c7 := pc_cn_lt y3 8 ht8
      simp only [wpX_recover, wpX_isTxn, wpX_isDecided, wpX_abort, f1, f2, et, vt8, y1, y3, y4, true_implies, false_implies, not_true_eq_false, not_false_eq_true, and_true, true_and, and_self, forall_eq, pc_d1, pc_dm1, pc_dm2, pc_dm3, pc_nb0, pc_nb1]
      have hI2 : pc_Inv b cp w (pc_pv ca ky pl (tt t) (t * 4) (pc_n sc t)) tt st al sg sc ky pl L := pc_pvI hI (i3 t) _
      have Y : ∀ ψ : Int32 → SY → Prop, wY_recover_81 ψ (nI t) (nI cp) (nI b) (nI w) tt st al sg sc ky vl pl (pc_pv ca ky pl (tt t) (t * 4) (pc_n sc t)) wk wt wv → wpY_recover ψ (nI cp, nI b, nI w, tt, st, al, sg, sc, ky, vl, pl, ca, wk, wt, wv) (nI t) := by
        intro ψ p
        simp only [wpY_recover, wpY_validTxn, wpY_undecided, f1, f2, et, vt8, y1, true_implies, false_implies, not_true_eq_false, not_false_eq_true, and_true, true_and, and_self, forall_eq, pc_d1, pc_dm1, pc_dm2, pc_dm3, pc_nb0, pc_nb1]
        simp only [y, true_implies, false_implies, not_true_eq_false, not_false_eq_true, and_true, true_and, and_self, forall_eq, pc_d1, pc_dm1, pc_dm2, pc_dm3, pc_nb0, pc_nb1]
        exact yh_prevAll ht8 en n4 i9 p
      refine xh_prevAll ht8 en n4 i9 (xh_decide ht8 en n4 i9 (i10 t) hX (fun q => by have := i12 q; omega) (fun hA => Y _ (yh_rec ht8 en n4 (by omega) hY (fun _ => ⟨rfl, _, _, _, _, _, _, _, _, _, _, _, _, _, _, _, _, _, _, _, rfl, rfl, pc_abort hI2 ht y3, hX, hY⟩) (fun hC => ?_))) (fun hC vc' vt' vv' hX' => Y _ (yh_rec ht8 en n4 (by omega) hY (fun hA => ?_) (fun _ wk' wt' wv' hY' => ⟨rfl, _, _, _, _, _, _, _, _, _, _, _, _, _, _, _, _, _, _, _, rfl, rfl, pc_commit hI2 ht y3 en n4, hX', hY'⟩))))
      · obtain ⟨i, hi, y⟩ := hA
        exact absurd (hC i hi) y
      · obtain ⟨i, hi, y⟩ := hA
        exact absurd (hC i hi) y
    · have y1 : ¬ st t = 1 := by rw [y]; decide
      have y2 : ¬ st t = 2 := by rw [y]; decide
      simp only [wpX_recover, wpX_isTxn, wpX_isDecided, wpX_abort, f1, f2, et, vt8, y, true_implies, false_implies, not_true_eq_false, not_false_eq_true, and_true, true_and, and_self, forall_eq, pc_d1, pc_dm1, pc_dm2, pc_dm3, pc_nb0, pc_nb1]
      simp only [wpY_recover, wpY_validTxn, wpY_undecided, wpY_decide, f1, f2, et, vt8, y1, y2, true_implies, false_implies, not_true_eq_false, not_false_eq_true, and_true, true_and, and_self, forall_eq, pc_d1, pc_dm1, pc_dm2, pc_dm3, pc_nb0, pc_nb1]
      exact R
    · have y1 : ¬ st t = 1 := by rw [y]; decide
      have y2 : ¬ st t = 2 := by rw [y]; decide
      have y3 : ¬ st t = 3 := by rw [y]; decide
      simp only [wpX_recover, wpX_isTxn, wpX_isDecided, wpX_abort, f1, f2, et, vt8, y3, true_implies, false_implies, not_true_eq_false, not_false_eq_true, and_true, true_and, and_self, forall_eq, pc_d1, pc_dm1, pc_dm2, pc_dm3, pc_nb0, pc_nb1]
      simp only [y, true_implies, false_implies, not_true_eq_false, not_false_eq_true, and_true, true_and, and_self, forall_eq, pc_d1, pc_dm1, pc_dm2, pc_dm3, pc_nb0, pc_nb1]
      simp only [wpY_recover, wpY_validTxn, wpY_undecided, wpY_decide, f1, f2, et, vt8, y1, y2, true_implies, false_implies, not_true_eq_false, not_false_eq_true, and_true, true_and, and_self, forall_eq, pc_d1, pc_dm1, pc_dm2, pc_dm3, pc_nb0, pc_nb1]
      exact R
theorem i_vc_read {k : Nat} {u : SX} {v : SY} (I : i_Rel k u v) (hk : k + 4 ≤ 2049) (v1 : Int32) (v2 : Int32) : wpX_read (fun r u' => wpY_read (fun r' v' => r' = r ∧ i_Rel (k + 4) u' v') v v1 v2) u v1 v2 := by
  obtain ⟨b, cp, w, ca, vc, vt, vv, tt, st, al, sg, sc, ky, vl, pl, wk, wt, wv, L, rfl, rfl, hI, hX, hY⟩ := I
  have R : i_Rel (k + 4) (nI cp, nI b, ca, vc, vt, vv, tt, st, al, sg, sc, ky, vl, pl) (nI cp, nI b, nI w, tt, st, al, sg, sc, ky, vl, pl, ca, wk, wt, wv) := ⟨_, _, _, _, _, _, _, _, _, _, _, _, _, _, _, _, _, _, _, rfl, rfl, hI, hX, hY⟩
  obtain ⟨⟨i1, i1'⟩, i2, i3, i4, i5, i6, i7, i8, i9, i10, i11, i12, i13⟩ := id hI
  have w32 : w ≤ 32 := by have := pc_cn_le st 8; omega
  rcases pc_ix v1 16 (by omega) with ⟨h, h'⟩ | ⟨h1, h2, h3, h4⟩ | ⟨q, hq, rfl⟩
  · simp only [wpX_read, wpX_isKey, wpX_isTimestamp, wpY_read, h, true_implies, false_implies, not_true_eq_false, not_false_eq_true, and_true, true_and, and_self, forall_eq, pc_d1, pc_dm1, pc_dm2, pc_dm3, pc_nb0, pc_nb1]
    exact R
  · have g4 : 16 ≤ v1 := h4
    simp only [wpX_read, wpX_isKey, wpX_isTimestamp, wpY_read, h1, g4, true_implies, false_implies, not_true_eq_false, not_false_eq_true, and_true, true_and, and_self, forall_eq, pc_d1, pc_dm1, pc_dm2, pc_dm3, pc_nb0, pc_nb1]
    exact R
  · have eq : (nI q).toNatClampNeg = q := nI_clamp (by omega)
    have vq : vp_in (nI q) 16 := vp_in_nI hq (by omega)
    have q1 : ¬ nI q < 0 := nI_pos (by omega)
    have q2 : ¬ 16 ≤ nI q := nI_ge (b := 16) hq (by decide)
    by_cases b1 : v2 < 1
    · simp only [wpX_read, wpX_isKey, wpX_isTimestamp, wpY_read, q1, q2, b1, true_implies, false_implies, not_true_eq_false, not_false_eq_true, and_true, true_and, and_self, forall_eq, pc_d1, pc_dm1, pc_dm2, pc_dm3, pc_nb0, pc_nb1]
      exact R
    · by_cases b2 : 1000000 < v2
      · have b3 : ¬ v2 ≤ 1000000 := Int32.not_le.mpr b2
        simp only [wpX_read, wpX_isKey, wpX_isTimestamp, wpY_read, q1, q2, b1, b2, b3, true_implies, false_implies, not_true_eq_false, not_false_eq_true, and_true, true_and, and_self, forall_eq, pc_d1, pc_dm1, pc_dm2, pc_dm3, pc_nb0, pc_nb1]
        exact R
      · have b3 : v2 ≤ 1000000 := Int32.not_lt.mp b2
        have hx0 : ¬ v2 < 0 := Int32.not_lt.mpr (Int32.le_trans (by decide) (Int32.not_lt.mp b1))
        have yr : ∀ (ψ : Int32 → SY → Prop), ψ ((L q).foldl (pc_rd v2) (-9)) (nI cp, nI b, nI w, tt, st, al, sg, sc, ky, vl, pl, pc_ra ca q v2, wk, wt, wv) → wY_read_47 ψ (nI q) v2 (nI cp) (nI b) (nI w) tt st al sg sc ky vl pl ca wk wt wv := by
          intro ψ p
          unfold pc_ra at p
          simp only [wY_read_47, eq, vq, true_implies, false_implies, not_true_eq_false, not_false_eq_true, and_true, true_and, and_self, forall_eq, pc_d1, pc_dm1, pc_dm2, pc_dm3, pc_nb0, pc_nb1]
          refine br_c (fun z => ?_) (fun z => ?_)
          · rw [if_pos z] at p
            exact yh_last hq w32 hY p
          · rw [if_neg z] at p
            exact yh_last hq w32 hY p
        have Y : ∀ (ψ : Int32 → SY → Prop), ((∀ s, s < b → ∀ j, ¬ pc_hit st sc ky pl (nI q) s j) → wY_read_47 ψ (nI q) v2 (nI cp) (nI b) (nI w) tt st al sg sc ky vl pl ca wk wt wv) → (∀ s j, s < b → pc_hit st sc ky pl (nI q) s j → (∀ r, r < s → ∀ m, ¬ pc_hit st sc ky pl (nI q) r m) → (v2 < pl (s * 4 + j) → wY_read_47 ψ (nI q) v2 (nI cp) (nI b) (nI w) tt st al sg sc ky vl pl ca wk wt wv) ∧ (¬ v2 < pl (s * 4 + j) → ψ (-10) (nI cp, nI b, nI w, tt, st, al, sg, sc, ky, vl, pl, ca, wk, wt, wv))) → wpY_read ψ (nI cp, nI b, nI w, tt, st, al, sg, sc, ky, vl, pl, ca, wk, wt, wv) (nI q) v2 := by
          intro ψ p1 p2
          simp only [wpY_read, q1, q2, b1, b3, true_implies, false_implies, not_true_eq_false, not_false_eq_true, and_true, true_and, and_self, forall_eq, pc_d1, pc_dm1, pc_dm2, pc_dm3, pc_nb0, pc_nb1]
          refine yh_intentOn (by omega) i7 (fun hno => br_t (by decide) (p1 hno)) (fun s j hs hj hh hl => br_f (nI_pos (by omega)) ⟨vp_in_nI (by omega) (by omega), ?_⟩)
          rw [nI_clamp (show s * 4 + j < 2 ^ 31 by omega)]
          exact p2 s j hs hh hl
        have xr : ∀ (φ : Int32 → SX → Prop), φ ((L q).foldl (pc_rd v2) (-9)) (nI cp, nI b, pc_ra ca q v2, vc, vt, vv, tt, st, al, sg, sc, ky, vl, pl) → wX_read_37 φ (nI q) v2 (nI cp) (nI b) ca vc vt vv tt st al sg sc ky vl pl := by
          intro φ p
          unfold wX_read_37
          exact xh_raise hq (xh_last hq hX p)
        have J : i_Rel (k + 4) (nI cp, nI b, pc_ra ca q v2, vc, vt, vv, tt, st, al, sg, sc, ky, vl, pl) (nI cp, nI b, nI w, tt, st, al, sg, sc, ky, vl, pl, pc_ra ca q v2, wk, wt, wv) := ⟨_, _, _, _, _, _, _, _, _, _, _, _, _, _, _, _, _, _, _, rfl, rfl, pc_raI hI hx0, hX, hY⟩
        simp only [wpX_read, wpX_isKey, wpX_isTimestamp, q1, q2, b1, b2, true_implies, false_implies, not_true_eq_false, not_false_eq_true, and_true, true_and, and_self, forall_eq, pc_d1, pc_dm1, pc_dm2, pc_dm3, pc_nb0, pc_nb1]
        refine xh_intentTs (by omega) i4 i7 i10 (fun hno => ?_) (fun s j hs hh hl hnz => ?_)
        · refine br_t (by trivial) (xr _ (Y _ (fun _ => yr _ ⟨rfl, J⟩) (fun s j hs hh _ => absurd hh (hno s hs j))))
        · refine br_f hnz (br_c (fun z => xr _ (Y _ (fun hno => absurd hh (hno s hs j)) (fun s' j' hs' hh' hl' => br_t ?_ (yr _ ⟨rfl, J⟩)))) (fun z => Y _ (fun hno => absurd hh (hno s hs j)) (fun s' j' hs' hh' hl' => br_f ?_ ⟨rfl, R⟩)))
          · rw [pc_cell_eq i10 hs hs' hh hl hh' hl']
            exact z
          · rw [pc_cell_eq i10 hs hs' hh hl hh' hl']
            exact z
