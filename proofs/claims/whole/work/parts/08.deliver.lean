/-! ## deliver, finalize, recover, read -/
theorem i_vc_deliver {k : Nat} {u : SX} {v : SY} (I : i_Rel k u v) (hk : k + 4 ≤ 2049) (v1 : Int32) (v2 : Int32) : wpX_deliver (fun r u' => wpY_deliver (fun r' v' => r' = r ∧ i_Rel (k + 4) u' v') v v1 v2) u v1 v2 := by
  obtain ⟨b, cp, w, ca, vc, vt, vv, tt, st, al, sg, sc, ky, vl, pl, wk, wt, wv, L, rfl, rfl, hI, hX, hY⟩ := I
  have R : i_Rel (k + 4) (nI cp, nI b, ca, vc, vt, vv, tt, st, al, sg, sc, ky, vl, pl) (nI cp, nI b, nI w, tt, st, al, sg, sc, ky, vl, pl, ca, wk, wt, wv) := ⟨_, _, _, _, _, _, _, _, _, _, _, _, _, _, _, _, _, _, _, rfl, rfl, hI, hX, hY⟩
  obtain ⟨⟨i1, i1'⟩, i2, i3, i4, i5, i6, i7, i8, i9, i10, i11, i12, i13⟩ := id hI
  have w32 : w ≤ 32 := by have := pc_cn_le st 8; omega
  rcases pc_ix v1 b (by omega) with ⟨h, h'⟩ | ⟨h1, h2, h3, h4⟩ | ⟨t, ht, rfl⟩
  · simp only [wpX_deliver, wpX_isTxn, wpX_isSlot, wpX_isDelivered, wpX_isDecided, wpX_cellOf, wpY_deliver, wpY_validTxn, wpY_validSlot, wpY_undecided, h, true_implies, false_implies, not_true_eq_false, not_false_eq_true, and_true, true_and, and_self, forall_eq, pc_d1, pc_dm1, pc_dm2, pc_dm3, pc_nb0, pc_nb1]
    exact R
  · simp only [wpX_deliver, wpX_isTxn, wpX_isSlot, wpX_isDelivered, wpX_isDecided, wpX_cellOf, wpY_deliver, wpY_validTxn, wpY_validSlot, wpY_undecided, h1, h4, true_implies, false_implies, not_true_eq_false, not_false_eq_true, and_true, true_and, and_self, forall_eq, pc_d1, pc_dm1, pc_dm2, pc_dm3, pc_nb0, pc_nb1]
    exact R
  · have ht8 : t < 8 := by omega
    have et : (nI t).toNatClampNeg = t := nI_clamp (by omega)
    have vt8 : vp_in (nI t) 8 := vp_in_nI ht8 (by omega)
    have f1 : ¬ nI t < 0 := nI_pos (by omega)
    have f2 : ¬ nI b ≤ nI t := nI_ge ht (by omega)
    have n4 := (i7 t).1
    have en := (i7 t).2
    rcases pc_ix v2 (pc_n sc t) (by omega) with ⟨g, g'⟩ | ⟨g1, g2, g3, g4⟩ | ⟨i, hi, rfl⟩
    · simp only [wpX_deliver, wpX_isTxn, wpX_isSlot, wpX_isDelivered, wpX_isDecided, wpX_cellOf, wpY_deliver, wpY_validTxn, wpY_validSlot, wpY_undecided, f1, f2, et, vt8, g, true_implies, false_implies, not_true_eq_false, not_false_eq_true, and_true, true_and, and_self, forall_eq, pc_d1, pc_dm1, pc_dm2, pc_dm3, pc_nb0, pc_nb1]
      exact R
    · rw [← en] at g4
      simp only [wpX_deliver, wpX_isTxn, wpX_isSlot, wpX_isDelivered, wpX_isDecided, wpX_cellOf, wpY_deliver, wpY_validTxn, wpY_validSlot, wpY_undecided, f1, f2, et, vt8, g1, g4, true_implies, false_implies, not_true_eq_false, not_false_eq_true, and_true, true_and, and_self, forall_eq, pc_d1, pc_dm1, pc_dm2, pc_dm3, pc_nb0, pc_nb1]
      exact R
    · have ec : (nI (t * 4 + i)).toNatClampNeg = t * 4 + i := nI_clamp (by omega)
      have vc32 : vp_in (nI (t * 4 + i)) 32 := vp_in_nI (by omega) (by omega)
      have s1 : ¬ nI i < 0 := nI_pos (by omega)
      have s2 : ¬ sc t ≤ nI i := by rw [en]; exact nI_ge hi (by omega)
      by_cases hz : pl (t * 4 + i) = 0
      · obtain ⟨q, hq, ek⟩ := i9 (t * 4 + i)
        have J : ∀ x : Int32, i_Rel (k + 4) (nI cp, nI b, ca, vc, vt, vv, tt, st, al, sg, sc, ky, vl, upd pl (t * 4 + i) x) (nI cp, nI b, nI w, tt, st, al, sg, sc, ky, vl, upd pl (t * 4 + i) x, ca, wk, wt, wv) := fun x => ⟨_, _, _, _, _, _, _, _, _, _, _, _, _, _, _, _, _, _, _, rfl, rfl, pc_deliver hI en n4 hi, hX, hY⟩
        have own : ∀ s j, pc_hit st sc ky pl (nI q) s j → s ≠ t := by
          intro s j z e
          subst e
          obtain ⟨_, z2, z3, z4⟩ := z
          rcases Nat.lt_trichotomy i j with g | g | g
          · exact i10 s i j g z2 (ek.trans z4.symm)
          · subst g
            exact z3 hz
          · exact i10 s j i g hi (z4.trans ek.symm)
        have dec : (st t = 1 ∨ st t = 2) ∨ (st t = 3 ∨ st t = 4) := by
          rcases i4 t ht with y | y | y | y
          · exact Or.inl (Or.inl y)
          · exact Or.inl (Or.inr y)
          · exact Or.inr (Or.inl y)
          · exact Or.inr (Or.inr y)
        rcases dec with hu | hu
        · have e3 : ¬ st t = 3 := by rcases hu with y | y <;> rw [y] <;> decide
          have e4 : ¬ st t = 4 := by rcases hu with y | y <;> rw [y] <;> decide
          have fin : ∀ (ψ : Int32 → SY → Prop), (∀ (hno : ∀ s, s < b → ∀ j, ¬ pc_hit st sc ky pl (nI q) s j), wY_deliver_83 ψ (nI t) (nI (t * 4 + i)) (nI q) (nI cp) (nI b) (nI w) tt st al sg sc ky vl pl ca wk wt wv) → (∀ s j, s < b → pc_hit st sc ky pl (nI q) s j → ψ (-7) (nI cp, nI b, nI w, tt, st, al, sg, sc, ky, vl, pl, ca, wk, wt, wv)) → wpY_deliver ψ (nI cp, nI b, nI w, tt, st, al, sg, sc, ky, vl, pl, ca, wk, wt, wv) (nI t) (nI i) := by
            intro ψ p1 p2
            have core : wpY_intentOn (fun r_57 => (((r_57 < 0 → (wY_deliver_83 ψ (nI t) (nI (t * 4 + i)) (nI q) (nI cp) (nI b) (nI w) tt st al sg sc ky vl pl ca wk wt wv)) ∧ (¬ r_57 < 0 → (¬ (4 : Int32) = 0 ∧ ((((r_57 / 4) = (nI t) → (wY_deliver_83 ψ (nI t) (nI (t * 4 + i)) (nI q) (nI cp) (nI b) (nI w) tt st al sg sc ky vl pl ca wk wt wv)) ∧ (¬ (r_57 / 4) = (nI t) → (ψ (-7) (nI cp, nI b, nI w, tt, st, al, sg, sc, ky, vl, pl, ca, wk, wt, wv)))))))))) (nI cp, nI b, nI w, tt, st, al, sg, sc, ky, vl, pl, ca, wk, wt, wv) (nI q) := by
              refine yh_intentOn (by omega) i7 (fun hno => br_t (by decide) (p1 hno)) (fun s j hs hj hh _ => br_f (nI_pos (by omega)) ⟨by decide, ?_⟩)
              rw [pc_div4 (by omega) hj]
              exact br_f (fun z => own s j hh ((nI_eq (by omega) (by omega)).mp z)) (p2 s j hs hh)
            rcases hu with y | y
            · have y2 : ¬ st t = 2 := by rw [y]; decide
              simp only [wpX_deliver, wpX_isTxn, wpX_isSlot, wpX_isDelivered, wpX_isDecided, wpX_cellOf, wpY_deliver, wpY_validTxn, wpY_validSlot, wpY_undecided, f1, f2, et, vt8, s1, s2, pc_cell, ec, vc32, hz, ek, y, true_implies, false_implies, not_true_eq_false, not_false_eq_true, and_true, true_and, and_self, forall_eq, pc_d1, pc_dm1, pc_dm2, pc_dm3, pc_nb0, pc_nb1]
              exact core
            · have y2 : ¬ st t = 1 := by rw [y]; decide
              simp only [wpY_deliver, wpY_validTxn, wpY_validSlot, wpY_undecided, f1, f2, et, vt8, s1, s2, pc_cell, ec, vc32, hz, ek, y2, true_implies, false_implies, not_true_eq_false, not_false_eq_true, and_true, true_and, and_self, forall_eq, pc_d1, pc_dm1, pc_dm2, pc_dm3, pc_nb0, pc_nb1]
              simp only [y, true_implies, false_implies, not_true_eq_false, not_false_eq_true, and_true, true_and, and_self, forall_eq, pc_d1, pc_dm1, pc_dm2, pc_dm3, pc_nb0, pc_nb1]
              exact core
          simp only [wpX_deliver, wpX_isTxn, wpX_isSlot, wpX_isDelivered, wpX_isDecided, wpX_cellOf, f1, f2, et, vt8, s1, s2, pc_cell, ec, vc32, hz, ek, e3, e4, true_implies, false_implies, not_true_eq_false, not_false_eq_true, and_true, true_and, and_self, forall_eq, pc_d1, pc_dm1, pc_dm2, pc_dm3, pc_nb0, pc_nb1]
          refine xh_intentTs (by omega) i4 i7 i10 (fun hno => ?_) (fun s j hs hh hl hnz => ?_)
          · refine br_t (by trivial) (xh_floorOf hq hX ?_)
            generalize hF : (L q).foldl pc_g (ca q) = F
            have yfl : ∀ (ψ : Int32 → SY → Prop), (tt t ≤ F → wY_deliver_127 ψ (nI t) (nI (t * 4 + i)) (nI cp) (nI b) (nI w) tt st al sg sc ky vl (upd pl (t * 4 + i) (F + 1)) ca wk wt wv) → (¬ tt t ≤ F → wY_deliver_127 ψ (nI t) (nI (t * 4 + i)) (nI cp) (nI b) (nI w) tt st al sg sc ky vl (upd pl (t * 4 + i) (tt t)) ca wk wt wv) → wY_deliver_83 ψ (nI t) (nI (t * 4 + i)) (nI q) (nI cp) (nI b) (nI w) tt st al sg sc ky vl pl ca wk wt wv := by
              intro ψ p1 p2
              unfold wY_deliver_83
              refine yh_floorOf hq w32 (i2 q) hY ?_
              rw [hF]
              simp only [et, ec, vt8, vc32, true_implies, false_implies, not_true_eq_false, not_false_eq_true, and_true, true_and, and_self, forall_eq, pc_d1, pc_dm1, pc_dm2, pc_dm3, pc_nb0, pc_nb1]
              exact ⟨p1, p2⟩
            refine br_c (fun z => ?_) (fun z => ?_)
            · simp only [wX_deliver_109, wpX_deliveredState, wpX_cellOf, wY_deliver_127, et, vt8, pc_cell, ec, vc32, true_implies, false_implies, not_true_eq_false, not_false_eq_true, and_true, true_and, and_self, forall_eq, pc_d1, pc_dm1, pc_dm2, pc_dm3, pc_nb0, pc_nb1]
              have us : upd pl (t * 4 + i) (F + 1) (t * 4 + i) = F + 1 := pk_us
              rw [us]
              refine br_c (fun y => ?_) (fun y => ?_)
              · refine fin _ (fun _ => yfl _ (fun _ => ?_) (fun z' => absurd z z')) (fun s j hs hh => absurd hh (hno s hs j))
                simp only [wY_deliver_127, et, vt8, ec, vc32, us, true_implies, false_implies, not_true_eq_false, not_false_eq_true, and_true, true_and, and_self, forall_eq, pc_d1, pc_dm1, pc_dm2, pc_dm3, pc_nb0, pc_nb1]
                exact br_t y (J _)
              · refine fin _ (fun _ => yfl _ (fun _ => ?_) (fun z' => absurd z z')) (fun s j hs hh => absurd hh (hno s hs j))
                simp only [wY_deliver_127, et, vt8, ec, vc32, us, true_implies, false_implies, not_true_eq_false, not_false_eq_true, and_true, true_and, and_self, forall_eq, pc_d1, pc_dm1, pc_dm2, pc_dm3, pc_nb0, pc_nb1]
                exact br_f y (J _)
            · simp only [wX_deliver_109, wpX_deliveredState, wpX_cellOf, wY_deliver_127, et, vt8, pc_cell, ec, vc32, true_implies, false_implies, not_true_eq_false, not_false_eq_true, and_true, true_and, and_self, forall_eq, pc_d1, pc_dm1, pc_dm2, pc_dm3, pc_nb0, pc_nb1]
              have us : upd pl (t * 4 + i) (tt t) (t * 4 + i) = tt t := pk_us
              simp only [us, true_implies, false_implies, not_true_eq_false, not_false_eq_true, and_true, true_and, and_self, forall_eq, pc_d1, pc_dm1, pc_dm2, pc_dm3, pc_nb0, pc_nb1]
              refine fin _ (fun _ => yfl _ (fun z' => absurd z' z) (fun _ => ?_)) (fun s j hs hh => absurd hh (hno s hs j))
              simp only [wY_deliver_127, et, vt8, ec, vc32, us, true_implies, false_implies, not_true_eq_false, not_false_eq_true, and_true, true_and, and_self, forall_eq, pc_d1, pc_dm1, pc_dm2, pc_dm3, pc_nb0, pc_nb1]
              exact J _
          · refine br_f hnz (fin _ (fun hno => absurd hh (hno s hs j)) (fun _ _ _ _ => ⟨rfl, R⟩))
        · rcases hu with y | y
          · have y1 : ¬ st t = 1 := by rw [y]; decide
            have y2 : ¬ st t = 2 := by rw [y]; decide
            simp only [wpX_deliver, wpX_isTxn, wpX_isSlot, wpX_isDelivered, wpX_isDecided, wpX_cellOf, f1, f2, et, vt8, s1, s2, pc_cell, ec, vc32, hz, y, true_implies, false_implies, not_true_eq_false, not_false_eq_true, and_true, true_and, and_self, forall_eq, pc_d1, pc_dm1, pc_dm2, pc_dm3, pc_nb0, pc_nb1]
            simp only [wpY_deliver, wpY_validTxn, wpY_validSlot, wpY_undecided, f1, f2, et, vt8, s1, s2, pc_cell, ec, vc32, hz, y1, y2, true_implies, false_implies, not_true_eq_false, not_false_eq_true, and_true, true_and, and_self, forall_eq, pc_d1, pc_dm1, pc_dm2, pc_dm3, pc_nb0, pc_nb1]
            exact R
          · have y1 : ¬ st t = 1 := by rw [y]; decide
            have y2 : ¬ st t = 2 := by rw [y]; decide
            have y3 : ¬ st t = 3 := by rw [y]; decide
            simp only [wpX_deliver, wpX_isTxn, wpX_isSlot, wpX_isDelivered, wpX_isDecided, wpX_cellOf, f1, f2, et, vt8, s1, s2, pc_cell, ec, vc32, hz, y3, true_implies, false_implies, not_true_eq_false, not_false_eq_true, and_true, true_and, and_self, forall_eq, pc_d1, pc_dm1, pc_dm2, pc_dm3, pc_nb0, pc_nb1]
            simp only [y, true_implies, false_implies, not_true_eq_false, not_false_eq_true, and_true, true_and, and_self, forall_eq, pc_d1, pc_dm1, pc_dm2, pc_dm3, pc_nb0, pc_nb1]
            simp only [wpY_deliver, wpY_validTxn, wpY_validSlot, wpY_undecided, f1, f2, et, vt8, s1, s2, pc_cell, ec, vc32, hz, y1, y2, true_implies, false_implies, not_true_eq_false, not_false_eq_true, and_true, true_and, and_self, forall_eq, pc_d1, pc_dm1, pc_dm2, pc_dm3, pc_nb0, pc_nb1]
            exact R
      · simp only [wpX_deliver, wpX_isTxn, wpX_isSlot, wpX_isDelivered, wpX_isDecided, wpX_cellOf, wpY_deliver, wpY_validTxn, wpY_validSlot, wpY_undecided, f1, f2, et, vt8, s1, s2, pc_cell, ec, vc32, hz, true_implies, false_implies, not_true_eq_false, not_false_eq_true, and_true, true_and, and_self, forall_eq, pc_d1, pc_dm1, pc_dm2, pc_dm3, pc_nb0, pc_nb1]
        exact R
