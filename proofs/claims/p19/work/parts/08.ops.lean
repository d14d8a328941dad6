/-! ## every call keeps what was seen and what is committed: the state, what readers saw (M), the implicitly committed (P) -/
def pq_K (M : Nat → Int32 → Int32 → Prop) (P : Nat → Prop) (u : St1) : Prop := ∃ (b : Nat) (ca vc vt vv tt st al sg sc ky vl pl : Nat → Int32) (L : Nat → List (Int32 × Int32)),
  u = (nI 8, nI b, ca, vc, vt, vv, tt, st, al, sg, sc, ky, vl, pl) ∧ pq_J b ca tt st al sg sc ky pl L ∧ pc_XV vc vt vv L ∧ (∀ k r a, k < 16 → M k r a → pq_mem ca st sc ky pl L k r a) ∧ (∀ t, P t → pq_imp b tt sg sc pl t)
theorem pq_ra {b q : Nat} {ca tt st al sg sc ky pl : Nat → Int32} {L : Nat → List (Int32 × Int32)} {x : Int32} (h : pq_J b ca tt st al sg sc ky pl L) (hm : x ≤ 1000000) :
    pq_J b (pc_ra ca q x) tt st al sg sc ky pl L ∧ pq_go b ca tt st sg sc ky pl L b (pc_ra ca q x) tt st sg sc ky pl L := by
  unfold pc_ra
  split
  · exact ⟨h, pq_go_refl ..⟩
  · rename_i z
    exact pq_cache h (Int32.le_of_lt (Int32.not_le.mp z)) hm
theorem pq_pv {b c : Nat} {ca tt st al sg sc ky pl : Nat → Int32} {L : Nat → List (Int32 × Int32)} {x : Int32} (h : pq_J b ca tt st al sg sc ky pl L) (hm : x ≤ 1000000) (i : Nat) :
    pq_J b (pc_pv ca ky pl x c i) tt st al sg sc ky pl L ∧ pq_go b ca tt st sg sc ky pl L b (pc_pv ca ky pl x c i) tt st sg sc ky pl L := by
  induction i with
  | zero => exact ⟨h, pq_go_refl ..⟩
  | succ i ih =>
    show pq_J b (if pl (c + i) = 0 then pc_ra (pc_pv ca ky pl x c i) (ky (c + i)).toNatClampNeg x else pc_pv ca ky pl x c i) tt st al sg sc ky pl L ∧ pq_go b ca tt st sg sc ky pl L b (if pl (c + i) = 0 then pc_ra (pc_pv ca ky pl x c i) (ky (c + i)).toNatClampNeg x else pc_pv ca ky pl x c i) tt st sg sc ky pl L
    split
    · have a := pq_ra (q := (ky (c + i)).toNatClampNeg) ih.1 hm
      exact ⟨a.1, pq_go_trans ih.2 a.2⟩
    · exact ih
theorem po_begin {M : Nat → Int32 → Int32 → Prop} {P : Nat → Prop} {u : St1} {post : Int32 → St1 → Prop} (h : pq_K M P u) (x : Int32) (hp : ∀ r u', pq_K M P u' → post r u') : wpX_begin post u x := by
  obtain ⟨b, ca, vc, vt, vv, tt, st, al, sg, sc, ky, vl, pl, L, rfl, hJ, hX, hM, hP⟩ := h
  have R : ∀ r, post r (nI 8, nI b, ca, vc, vt, vv, tt, st, al, sg, sc, ky, vl, pl) := fun r => hp r _ ⟨_, _, _, _, _, _, _, _, _, _, _, _, _, _, rfl, hJ, hX, hM, hP⟩
  obtain ⟨⟨w, ⟨i1, i1'⟩, i2, i3, i4, i5, i6, i7, i8, i9, i10, i11, i12, i13⟩, j1, j2, j3, j4, j5, j6, j7, j8, j9⟩ := id hJ
  by_cases h1 : x < 1
  · simp only [wpX_begin, wpX_isTimestamp, h1, true_implies, false_implies, not_true_eq_false, not_false_eq_true, and_true, true_and, and_self, forall_eq, pc_d1, pc_dm1, pc_dm2, pc_dm3]
    exact R _
  · by_cases h2 : 1000000 < x
    · simp only [wpX_begin, wpX_isTimestamp, h1, h2, true_implies, false_implies, not_true_eq_false, not_false_eq_true, and_true, true_and, and_self, forall_eq, pc_d1, pc_dm1, pc_dm2, pc_dm3]
      exact R _
    · by_cases h4 : b < 8
      · have c1 : nI b < nI 8 := nI_lt h4 (by omega)
        have c4 : vp_in (nI b) 8 := vp_in_nI (by omega) (by omega)
        have c5 : (nI b).toNatClampNeg = b := nI_clamp (by omega)
        simp only [wpX_begin, wpX_isTimestamp, h1, h2, c1, c4, c5, nI_1, true_implies, false_implies, not_true_eq_false, not_false_eq_true, and_true, true_and, and_self, forall_eq, pc_d1, pc_dm1, pc_dm2, pc_dm3]
        have e := pq_begin (ts := x) hJ h4 (Int32.not_lt.mp h1) (Int32.not_lt.mp h2)
        exact hp _ _ ⟨_, _, _, _, _, _, _, _, _, _, _, _, _, _, rfl, e.1, hX, fun k r a hk z => e.2.1 k r a hk (hM k r a hk z), fun t z => e.2.2 t (hP t z)⟩
      · have c1 : ¬ nI b < nI 8 := nI_nlt (by omega) (by omega)
        simp only [wpX_begin, wpX_isTimestamp, h1, h2, c1, true_implies, false_implies, not_true_eq_false, not_false_eq_true, and_true, true_and, and_self, forall_eq, pc_d1, pc_dm1, pc_dm2, pc_dm3]
        exact R _
theorem po_stage {M : Nat → Int32 → Int32 → Prop} {P : Nat → Prop} {u : St1} {post : Int32 → St1 → Prop} (h : pq_K M P u) (x : Int32) (hp : ∀ r u', pq_K M P u' → post r u') : wpX_stage post u x := by
  obtain ⟨b, ca, vc, vt, vv, tt, st, al, sg, sc, ky, vl, pl, L, rfl, hJ, hX, hM, hP⟩ := h
  have R : ∀ r, post r (nI 8, nI b, ca, vc, vt, vv, tt, st, al, sg, sc, ky, vl, pl) := fun r => hp r _ ⟨_, _, _, _, _, _, _, _, _, _, _, _, _, _, rfl, hJ, hX, hM, hP⟩
  obtain ⟨⟨w, ⟨i1, i1'⟩, i2, i3, i4, i5, i6, i7, i8, i9, i10, i11, i12, i13⟩, j1, j2, j3, j4, j5, j6, j7, j8, j9⟩ := id hJ
  rcases pc_ix x b (by omega) with ⟨h, h'⟩ | ⟨h1, h2, h3, h4⟩ | ⟨t, ht, rfl⟩
  · simp only [wpX_stage, wpX_coordinatorRefusal, wpX_isTxn, h, true_implies, false_implies, not_true_eq_false, not_false_eq_true, and_true, true_and, and_self, forall_eq, pc_d1, pc_dm1, pc_dm2, pc_dm3]
    exact R _
  · simp only [wpX_stage, wpX_coordinatorRefusal, wpX_isTxn, h1, h4, true_implies, false_implies, not_true_eq_false, not_false_eq_true, and_true, true_and, and_self, forall_eq, pc_d1, pc_dm1, pc_dm2, pc_dm3]
    exact R _
  · have ht8 : t < 8 := by omega
    have et : (nI t).toNatClampNeg = t := nI_clamp (by omega)
    have vt8 : vp_in (nI t) 8 := vp_in_nI ht8 (by omega)
    have f1 : ¬ nI t < 0 := nI_pos (by omega)
    have f2 : ¬ nI b ≤ nI t := nI_ge ht (by omega)
    by_cases hs : st t = 1
    · by_cases ha : al t = 0
      · simp only [wpX_stage, wpX_coordinatorRefusal, wpX_isTxn, f1, f2, et, vt8, hs, ha, true_implies, false_implies, not_true_eq_false, not_false_eq_true, and_true, true_and, and_self, forall_eq, pc_d1, pc_dm1, pc_dm2, pc_dm3]
        exact R _
      · by_cases hn : sc t = 0
        · simp only [wpX_stage, wpX_coordinatorRefusal, wpX_isTxn, f1, f2, et, vt8, hs, ha, hn, true_implies, false_implies, not_true_eq_false, not_false_eq_true, and_true, true_and, and_self, forall_eq, pc_d1, pc_dm1, pc_dm2, pc_dm3]
          exact R _
        · simp only [wpX_stage, wpX_coordinatorRefusal, wpX_isTxn, f1, f2, et, vt8, hs, ha, hn, true_implies, false_implies, not_true_eq_false, not_false_eq_true, and_true, true_and, and_self, forall_eq, pc_d1, pc_dm1, pc_dm2, pc_dm3]
          have e := pq_stage hJ ht hs
          exact hp _ _ ⟨_, _, _, _, _, _, _, _, _, _, _, _, _, _, rfl, e.1, hX, fun k r a hk z => e.2.1 k r a hk (hM k r a hk z), fun t z => e.2.2 t (hP t z)⟩
    · simp only [wpX_stage, wpX_coordinatorRefusal, wpX_isTxn, f1, f2, et, vt8, hs, true_implies, false_implies, not_true_eq_false, not_false_eq_true, and_true, true_and, and_self, forall_eq, pc_d1, pc_dm1, pc_dm2, pc_dm3]
      exact R _
theorem po_rollback {M : Nat → Int32 → Int32 → Prop} {P : Nat → Prop} {u : St1} {post : Int32 → St1 → Prop} (h : pq_K M P u) (x : Int32) (hp : ∀ r u', pq_K M P u' → post r u') : wpX_rollback post u x := by
  obtain ⟨b, ca, vc, vt, vv, tt, st, al, sg, sc, ky, vl, pl, L, rfl, hJ, hX, hM, hP⟩ := h
  have R : ∀ r, post r (nI 8, nI b, ca, vc, vt, vv, tt, st, al, sg, sc, ky, vl, pl) := fun r => hp r _ ⟨_, _, _, _, _, _, _, _, _, _, _, _, _, _, rfl, hJ, hX, hM, hP⟩
  obtain ⟨⟨w, ⟨i1, i1'⟩, i2, i3, i4, i5, i6, i7, i8, i9, i10, i11, i12, i13⟩, j1, j2, j3, j4, j5, j6, j7, j8, j9⟩ := id hJ
  rcases pc_ix x b (by omega) with ⟨h, h'⟩ | ⟨h1, h2, h3, h4⟩ | ⟨t, ht, rfl⟩
  · simp only [wpX_rollback, wpX_abort, wpX_coordinatorRefusal, wpX_isTxn, h, true_implies, false_implies, not_true_eq_false, not_false_eq_true, and_true, true_and, and_self, forall_eq, pc_d1, pc_dm1, pc_dm2, pc_dm3]
    exact R _
  · simp only [wpX_rollback, wpX_abort, wpX_coordinatorRefusal, wpX_isTxn, h1, h4, true_implies, false_implies, not_true_eq_false, not_false_eq_true, and_true, true_and, and_self, forall_eq, pc_d1, pc_dm1, pc_dm2, pc_dm3]
    exact R _
  · have ht8 : t < 8 := by omega
    have et : (nI t).toNatClampNeg = t := nI_clamp (by omega)
    have vt8 : vp_in (nI t) 8 := vp_in_nI ht8 (by omega)
    have f1 : ¬ nI t < 0 := nI_pos (by omega)
    have f2 : ¬ nI b ≤ nI t := nI_ge ht (by omega)
    by_cases hs : st t = 1
    · by_cases ha : al t = 0
      · simp only [wpX_rollback, wpX_abort, wpX_coordinatorRefusal, wpX_isTxn, f1, f2, et, vt8, hs, ha, true_implies, false_implies, not_true_eq_false, not_false_eq_true, and_true, true_and, and_self, forall_eq, pc_d1, pc_dm1, pc_dm2, pc_dm3]
        exact R _
      · simp only [wpX_rollback, wpX_abort, wpX_coordinatorRefusal, wpX_isTxn, f1, f2, et, vt8, hs, ha, true_implies, false_implies, not_true_eq_false, not_false_eq_true, and_true, true_and, and_self, forall_eq, pc_d1, pc_dm1, pc_dm2, pc_dm3]
        have e := pq_abort hJ ht (by rw [hs]; decide) (fun z => absurd z.2.1 (by rw [j5 t ht hs]; decide))
        exact hp _ _ ⟨_, _, _, _, _, _, _, _, _, _, _, _, _, _, rfl, e.1, hX, fun k r a hk z => e.2.1 k r a hk (hM k r a hk z), fun t z => e.2.2 t (hP t z)⟩
    · simp only [wpX_rollback, wpX_abort, wpX_coordinatorRefusal, wpX_isTxn, f1, f2, et, vt8, hs, true_implies, false_implies, not_true_eq_false, not_false_eq_true, and_true, true_and, and_self, forall_eq, pc_d1, pc_dm1, pc_dm2, pc_dm3]
      exact R _
theorem po_crash {M : Nat → Int32 → Int32 → Prop} {P : Nat → Prop} {u : St1} {post : Int32 → St1 → Prop} (h : pq_K M P u) (x : Int32) (hp : ∀ r u', pq_K M P u' → post r u') : wpX_crash post u x := by
  obtain ⟨b, ca, vc, vt, vv, tt, st, al, sg, sc, ky, vl, pl, L, rfl, hJ, hX, hM, hP⟩ := h
  have R : ∀ r, post r (nI 8, nI b, ca, vc, vt, vv, tt, st, al, sg, sc, ky, vl, pl) := fun r => hp r _ ⟨_, _, _, _, _, _, _, _, _, _, _, _, _, _, rfl, hJ, hX, hM, hP⟩
  obtain ⟨⟨w, ⟨i1, i1'⟩, i2, i3, i4, i5, i6, i7, i8, i9, i10, i11, i12, i13⟩, j1, j2, j3, j4, j5, j6, j7, j8, j9⟩ := id hJ
  rcases pc_ix x b (by omega) with ⟨h, h'⟩ | ⟨h1, h2, h3, h4⟩ | ⟨t, ht, rfl⟩
  · simp only [wpX_crash, wpX_isTxn, h, true_implies, false_implies, not_true_eq_false, not_false_eq_true, and_true, true_and, and_self, forall_eq, pc_d1, pc_dm1, pc_dm2, pc_dm3]
    exact R _
  · simp only [wpX_crash, wpX_isTxn, h1, h4, true_implies, false_implies, not_true_eq_false, not_false_eq_true, and_true, true_and, and_self, forall_eq, pc_d1, pc_dm1, pc_dm2, pc_dm3]
    exact R _
  · have ht8 : t < 8 := by omega
    have et : (nI t).toNatClampNeg = t := nI_clamp (by omega)
    have vt8 : vp_in (nI t) 8 := vp_in_nI ht8 (by omega)
    have f1 : ¬ nI t < 0 := nI_pos (by omega)
    have f2 : ¬ nI b ≤ nI t := nI_ge ht (by omega)
    by_cases ha : al t = 0
    · simp only [wpX_crash, wpX_isTxn, f1, f2, et, vt8, ha, true_implies, false_implies, not_true_eq_false, not_false_eq_true, and_true, true_and, and_self, forall_eq, pc_d1, pc_dm1, pc_dm2, pc_dm3]
      exact R _
    · simp only [wpX_crash, wpX_isTxn, f1, f2, et, vt8, ha, true_implies, false_implies, not_true_eq_false, not_false_eq_true, and_true, true_and, and_self, forall_eq, pc_d1, pc_dm1, pc_dm2, pc_dm3]
      exact hp _ _ ⟨_, _, _, _, _, _, _, _, _, _, _, _, _, _, rfl, pq_crash hJ, hX, hM, hP⟩
theorem po_addWrite {M : Nat → Int32 → Int32 → Prop} {P : Nat → Prop} {u : St1} {post : Int32 → St1 → Prop} (h : pq_K M P u) (x y z : Int32) (hp : ∀ r u', pq_K M P u' → post r u') : wpX_addWrite post u x y z := by
  obtain ⟨b, ca, vc, vt, vv, tt, st, al, sg, sc, ky, vl, pl, L, rfl, hJ, hX, hM, hP⟩ := h
  have R : ∀ r, post r (nI 8, nI b, ca, vc, vt, vv, tt, st, al, sg, sc, ky, vl, pl) := fun r => hp r _ ⟨_, _, _, _, _, _, _, _, _, _, _, _, _, _, rfl, hJ, hX, hM, hP⟩
  obtain ⟨⟨w, ⟨i1, i1'⟩, i2, i3, i4, i5, i6, i7, i8, i9, i10, i11, i12, i13⟩, j1, j2, j3, j4, j5, j6, j7, j8, j9⟩ := id hJ
  rcases pc_ix x b (by omega) with ⟨h, h'⟩ | ⟨h1, h2, h3, h4⟩ | ⟨t, ht, rfl⟩
  · simp only [wpX_addWrite, wpX_coordinatorRefusal, wpX_isTxn, wpX_isKey, wpX_cellOf, h, true_implies, false_implies, not_true_eq_false, not_false_eq_true, and_true, true_and, and_self, forall_eq, pc_d1, pc_dm1, pc_dm2, pc_dm3]
    exact R _
  · simp only [wpX_addWrite, wpX_coordinatorRefusal, wpX_isTxn, wpX_isKey, wpX_cellOf, h1, h4, true_implies, false_implies, not_true_eq_false, not_false_eq_true, and_true, true_and, and_self, forall_eq, pc_d1, pc_dm1, pc_dm2, pc_dm3]
    exact R _
  · have ht8 : t < 8 := by omega
    have et : (nI t).toNatClampNeg = t := nI_clamp (by omega)
    have vt8 : vp_in (nI t) 8 := vp_in_nI ht8 (by omega)
    have f1 : ¬ nI t < 0 := nI_pos (by omega)
    have f2 : ¬ nI b ≤ nI t := nI_ge ht (by omega)
    have n4 := (i7 t).1
    have en := (i7 t).2
    by_cases hs : st t = 1
    · by_cases ha : al t = 0
      · simp only [wpX_addWrite, wpX_coordinatorRefusal, wpX_isTxn, wpX_isKey, wpX_cellOf, f1, f2, et, vt8, hs, ha, true_implies, false_implies, not_true_eq_false, not_false_eq_true, and_true, true_and, and_self, forall_eq, pc_d1, pc_dm1, pc_dm2, pc_dm3]
        exact R _
      · rcases pc_ix y 16 (by omega) with ⟨g, g'⟩ | ⟨g1, g2, g3, g4⟩ | ⟨q, hq, rfl⟩
        · simp only [wpX_addWrite, wpX_coordinatorRefusal, wpX_isTxn, wpX_isKey, wpX_cellOf, f1, f2, et, vt8, hs, ha, g, true_implies, false_implies, not_true_eq_false, not_false_eq_true, and_true, true_and, and_self, forall_eq, pc_d1, pc_dm1, pc_dm2, pc_dm3]
          exact R _
        · have g5 : 16 ≤ y := g4
          simp only [wpX_addWrite, wpX_coordinatorRefusal, wpX_isTxn, wpX_isKey, wpX_cellOf, f1, f2, et, vt8, hs, ha, g1, g5, true_implies, false_implies, not_true_eq_false, not_false_eq_true, and_true, true_and, and_self, forall_eq, pc_d1, pc_dm1, pc_dm2, pc_dm3]
          exact R _
        · have q1 : ¬ nI q < 0 := nI_pos (by omega)
          have q2 : ¬ 16 ≤ nI q := nI_ge (b := 16) hq (by decide)
          by_cases b1 : z < 0
          · simp only [wpX_addWrite, wpX_coordinatorRefusal, wpX_isTxn, wpX_isKey, wpX_cellOf, f1, f2, et, vt8, hs, ha, q1, q2, b1, true_implies, false_implies, not_true_eq_false, not_false_eq_true, and_true, true_and, and_self, forall_eq, pc_d1, pc_dm1, pc_dm2, pc_dm3]
            exact R _
          · by_cases b2 : z ≤ 32767
            · simp only [wpX_addWrite, wpX_coordinatorRefusal, wpX_isTxn, wpX_isKey, wpX_cellOf, f1, f2, et, vt8, hs, ha, q1, q2, b1, b2, true_implies, false_implies, not_true_eq_false, not_false_eq_true, and_true, true_and, and_self, forall_eq, pc_d1, pc_dm1, pc_dm2, pc_dm3]
              refine xh_writesKey ht8 en n4 (fun hT => ?_) (fun hF => ?_)
              · simp only [true_implies, false_implies, not_true_eq_false, not_false_eq_true, and_true, true_and, and_self, forall_eq, pc_d1, pc_dm1, pc_dm2, pc_dm3]
                exact R _
              · by_cases n5 : pc_n sc t < 4
                · have c1 : sc t < 4 := by rw [en]; exact nI_lt (b := 4) n5 (by decide)
                  generalize hg : pc_n sc t = n at *
                  have ec : (nI (t * 4 + n)).toNatClampNeg = t * 4 + n := nI_clamp (by omega)
                  have vc32 : vp_in (nI (t * 4 + n)) 32 := vp_in_nI (by omega) (by omega)
                  simp only [c1, vt8, true_implies, false_implies, not_true_eq_false, not_false_eq_true, and_true, true_and, and_self, forall_eq, pc_d1, pc_dm1, pc_dm2, pc_dm3]
                  simp only [en, pc_cell, ec, vc32, nI_1, true_implies, false_implies, not_true_eq_false, not_false_eq_true, and_true, true_and, and_self, forall_eq, pc_d1, pc_dm1, pc_dm2, pc_dm3]
                  have e := pq_add hJ ht hs en n5 hq hF
                  exact hp _ _ ⟨_, _, _, _, _, _, _, _, _, _, _, _, _, _, rfl, e.1, hX, fun k r a hk z => e.2.1 k r a hk (hM k r a hk z), fun t z => e.2.2 t (hP t z)⟩
                · have c1 : ¬ sc t < 4 := by rw [en]; exact nI_nlt (b := 4) (by omega) (by omega)
                  simp only [vt8, c1, true_implies, false_implies, not_true_eq_false, not_false_eq_true, and_true, true_and, and_self, forall_eq, pc_d1, pc_dm1, pc_dm2, pc_dm3]
                  exact R _
            · simp only [wpX_addWrite, wpX_coordinatorRefusal, wpX_isTxn, wpX_isKey, wpX_cellOf, f1, f2, et, vt8, hs, ha, q1, q2, b1, b2, true_implies, false_implies, not_true_eq_false, not_false_eq_true, and_true, true_and, and_self, forall_eq, pc_d1, pc_dm1, pc_dm2, pc_dm3]
              exact R _
    · simp only [wpX_addWrite, wpX_coordinatorRefusal, wpX_isTxn, wpX_isKey, wpX_cellOf, f1, f2, et, vt8, hs, true_implies, false_implies, not_true_eq_false, not_false_eq_true, and_true, true_and, and_self, forall_eq, pc_d1, pc_dm1, pc_dm2, pc_dm3]
      exact R _
theorem po_probe {M : Nat → Int32 → Int32 → Prop} {P : Nat → Prop} {u : St1} {post : Int32 → St1 → Prop} (h : pq_K M P u) (x y : Int32) (hp : ∀ r u', pq_K M P u' → post r u') : wpX_probe post u x y := by
  obtain ⟨b, ca, vc, vt, vv, tt, st, al, sg, sc, ky, vl, pl, L, rfl, hJ, hX, hM, hP⟩ := h
  have R : ∀ r, post r (nI 8, nI b, ca, vc, vt, vv, tt, st, al, sg, sc, ky, vl, pl) := fun r => hp r _ ⟨_, _, _, _, _, _, _, _, _, _, _, _, _, _, rfl, hJ, hX, hM, hP⟩
  obtain ⟨⟨w, ⟨i1, i1'⟩, i2, i3, i4, i5, i6, i7, i8, i9, i10, i11, i12, i13⟩, j1, j2, j3, j4, j5, j6, j7, j8, j9⟩ := id hJ
  rcases pc_ix x b (by omega) with ⟨h, h'⟩ | ⟨h1, h2, h3, h4⟩ | ⟨t, ht, rfl⟩
  · simp only [wpX_probe, wpX_isTxn, wpX_isSlot, wpX_isDelivered, wpX_deliveredState, wpX_cellOf, h, true_implies, false_implies, not_true_eq_false, not_false_eq_true, and_true, true_and, and_self, forall_eq, pc_d1, pc_dm1, pc_dm2, pc_dm3]
    exact R _
  · simp only [wpX_probe, wpX_isTxn, wpX_isSlot, wpX_isDelivered, wpX_deliveredState, wpX_cellOf, h1, h4, true_implies, false_implies, not_true_eq_false, not_false_eq_true, and_true, true_and, and_self, forall_eq, pc_d1, pc_dm1, pc_dm2, pc_dm3]
    exact R _
  · have ht8 : t < 8 := by omega
    have et : (nI t).toNatClampNeg = t := nI_clamp (by omega)
    have vt8 : vp_in (nI t) 8 := vp_in_nI ht8 (by omega)
    have f1 : ¬ nI t < 0 := nI_pos (by omega)
    have f2 : ¬ nI b ≤ nI t := nI_ge ht (by omega)
    have n4 := (i7 t).1
    have en := (i7 t).2
    by_cases hs : st t = 2
    · rcases pc_ix y (pc_n sc t) (by omega) with ⟨g, g'⟩ | ⟨g1, g2, g3, g4⟩ | ⟨i, hi, rfl⟩
      · simp only [wpX_probe, wpX_isTxn, wpX_isSlot, wpX_isDelivered, wpX_deliveredState, wpX_cellOf, f1, f2, et, vt8, hs, g, true_implies, false_implies, not_true_eq_false, not_false_eq_true, and_true, true_and, and_self, forall_eq, pc_d1, pc_dm1, pc_dm2, pc_dm3]
        exact R _
      · rw [← en] at g4
        simp only [wpX_probe, wpX_isTxn, wpX_isSlot, wpX_isDelivered, wpX_deliveredState, wpX_cellOf, f1, f2, et, vt8, hs, g1, g4, true_implies, false_implies, not_true_eq_false, not_false_eq_true, and_true, true_and, and_self, forall_eq, pc_d1, pc_dm1, pc_dm2, pc_dm3]
        exact R _
      · have ec : (nI (t * 4 + i)).toNatClampNeg = t * 4 + i := nI_clamp (by omega)
        have vc32 : vp_in (nI (t * 4 + i)) 32 := vp_in_nI (by omega) (by omega)
        have s1 : ¬ nI i < 0 := nI_pos (by omega)
        have s2 : ¬ sc t ≤ nI i := by rw [en]; exact nI_ge hi (by omega)
        by_cases hz : pl (t * 4 + i) = 0
        · simp only [wpX_probe, wpX_isTxn, wpX_isSlot, wpX_isDelivered, wpX_deliveredState, wpX_cellOf, f1, f2, et, vt8, hs, s1, s2, pc_cell, ec, vc32, hz, true_implies, false_implies, not_true_eq_false, not_false_eq_true, and_true, true_and, and_self, forall_eq, pc_d1, pc_dm1, pc_dm2, pc_dm3]
          refine xh_prevent ht8 (by omega) i9 ?_
          have e := pq_ra (q := (ky (t * 4 + i)).toNatClampNeg) hJ (j2 t)
          exact hp _ _ ⟨_, _, _, _, _, _, _, _, _, _, _, _, _, _, rfl, e.1, hX, fun k r a hk z => e.2.1 k r a hk (hM k r a hk z), fun t z => e.2.2 t (hP t z)⟩
        · by_cases ha : pl (t * 4 + i) = tt t
          · rw [ha] at hz
            simp only [wpX_probe, wpX_isTxn, wpX_isSlot, wpX_isDelivered, wpX_deliveredState, wpX_cellOf, f1, f2, et, vt8, hs, s1, s2, pc_cell, ec, vc32, ha, hz, true_implies, false_implies, not_true_eq_false, not_false_eq_true, and_true, true_and, and_self, forall_eq, pc_d1, pc_dm1, pc_dm2, pc_dm3]
            exact R _
          · simp only [wpX_probe, wpX_isTxn, wpX_isSlot, wpX_isDelivered, wpX_deliveredState, wpX_cellOf, f1, f2, et, vt8, hs, s1, s2, pc_cell, ec, vc32, hz, ha, true_implies, false_implies, not_true_eq_false, not_false_eq_true, and_true, true_and, and_self, forall_eq, pc_d1, pc_dm1, pc_dm2, pc_dm3]
            exact R _
    · simp only [wpX_probe, wpX_isTxn, wpX_isSlot, wpX_isDelivered, wpX_deliveredState, wpX_cellOf, f1, f2, et, vt8, hs, true_implies, false_implies, not_true_eq_false, not_false_eq_true, and_true, true_and, and_self, forall_eq, pc_d1, pc_dm1, pc_dm2, pc_dm3]
      exact R _
