/-! ## deliver, finalize, recover, read; what the law asks of each transaction -/
theorem po_deliver {M : Nat → Int32 → Int32 → Prop} {P : Nat → Prop} {u : St1} {post : Int32 → St1 → Prop} (h : pq_K M P u) (x y : Int32) (hp : ∀ r u', pq_K M P u' → post r u') : wpX_deliver post u x y := by
  obtain ⟨b, ca, vc, vt, vv, tt, st, al, sg, sc, ky, vl, pl, L, rfl, hJ, hX, hM, hP⟩ := h
  have R : ∀ r, post r (nI 8, nI b, ca, vc, vt, vv, tt, st, al, sg, sc, ky, vl, pl) := fun r => hp r _ ⟨_, _, _, _, _, _, _, _, _, _, _, _, _, _, rfl, hJ, hX, hM, hP⟩
  obtain ⟨⟨w, ⟨i1, i1'⟩, i2, i3, i4, i5, i6, i7, i8, i9, i10, i11, i12, i13⟩, j1, j2, j3, j4, j5, j6, j7, j8, j9⟩ := id hJ
  rcases pc_ix x b (by omega) with ⟨h, h'⟩ | ⟨h1, h2, h3, h4⟩ | ⟨t, ht, rfl⟩
  · simp only [wpX_deliver, wpX_isTxn, h, true_implies, false_implies, not_true_eq_false, not_false_eq_true, and_true, true_and, and_self, forall_eq, pc_d1, pc_dm1, pc_dm2, pc_dm3]
    exact R _
  · simp only [wpX_deliver, wpX_isTxn, h1, h4, true_implies, false_implies, not_true_eq_false, not_false_eq_true, and_true, true_and, and_self, forall_eq, pc_d1, pc_dm1, pc_dm2, pc_dm3]
    exact R _
  · have ht8 : t < 8 := by omega
    have et : (nI t).toNatClampNeg = t := nI_clamp (by omega)
    have vt8 : vp_in (nI t) 8 := vp_in_nI ht8 (by omega)
    have f1 : ¬ nI t < 0 := nI_pos (by omega)
    have f2 : ¬ nI b ≤ nI t := nI_ge ht (by omega)
    have n4 := (i7 t).1
    have en := (i7 t).2
    rcases pc_ix y (pc_n sc t) (by omega) with ⟨g, g'⟩ | ⟨g1, g2, g3, g4⟩ | ⟨i, hi, rfl⟩
    · simp only [wpX_deliver, wpX_isTxn, wpX_isSlot, f1, f2, et, vt8, g, true_implies, false_implies, not_true_eq_false, not_false_eq_true, and_true, true_and, and_self, forall_eq, pc_d1, pc_dm1, pc_dm2, pc_dm3]
      exact R _
    · rw [← en] at g4
      simp only [wpX_deliver, wpX_isTxn, wpX_isSlot, f1, f2, et, vt8, g1, g4, true_implies, false_implies, not_true_eq_false, not_false_eq_true, and_true, true_and, and_self, forall_eq, pc_d1, pc_dm1, pc_dm2, pc_dm3]
      exact R _
    · have ec : (nI (t * 4 + i)).toNatClampNeg = t * 4 + i := nI_clamp (by omega)
      have vc32 : vp_in (nI (t * 4 + i)) 32 := vp_in_nI (by omega) (by omega)
      have s1 : ¬ nI i < 0 := nI_pos (by omega)
      have s2 : ¬ sc t ≤ nI i := by rw [en]; exact nI_ge hi (by omega)
      by_cases hz : pl (t * 4 + i) = 0
      · obtain ⟨q, hq, ek⟩ := i9 (t * 4 + i)
        have dec : (st t = 1 ∨ st t = 2) ∨ (st t = 3 ∨ st t = 4) := by
          rcases i4 t ht with y | y | y | y
          · exact Or.inl (Or.inl y)
          · exact Or.inl (Or.inr y)
          · exact Or.inr (Or.inl y)
          · exact Or.inr (Or.inr y)
        rcases dec with hu | hu
        · have e3 : ¬ st t = 3 := by rcases hu with y | y <;> rw [y] <;> decide
          have e4 : ¬ st t = 4 := by rcases hu with y | y <;> rw [y] <;> decide
          simp only [wpX_deliver, wpX_isTxn, wpX_isSlot, wpX_isDelivered, wpX_isDecided, wpX_cellOf, f1, f2, et, vt8, s1, s2, pc_cell, ec, vc32, hz, ek, e3, e4, true_implies, false_implies, not_true_eq_false, not_false_eq_true, and_true, true_and, and_self, forall_eq, pc_d1, pc_dm1, pc_dm2, pc_dm3]
          refine xh_intentTs (by omega) i4 i7 i10 (fun hno => ?_) (fun s j hs hh hl hnz => ?_)
          · refine br_t (by trivial) (xh_floorOf hq hX ?_)
            have fle := pq_fl_le (L q) (ca q) (j4 q) (j1 q)
            have D : ∀ v : Int32, (L q).foldl pc_g (ca q) < v → ∀ r, post r (nI 8, nI b, ca, vc, vt, vv, tt, st, al, sg, sc, ky, vl, upd pl (t * 4 + i) v) := by
              intro v hv r
              have e := pq_deliver (x := v) hJ ht hu en n4 hi hz hq ek hno hv
              exact hp _ _ ⟨_, _, _, _, _, _, _, _, _, _, _, _, _, _, rfl, e.1, hX, fun k r a hk z => e.2.1 k r a hk (hM k r a hk z), fun t z => e.2.2 t (hP t z)⟩
            refine br_c (fun z => ?_) (fun z => ?_)
            · simp only [wX_deliver_109, wpX_deliveredState, wpX_cellOf, et, vt8, pc_cell, ec, vc32, true_implies, false_implies, not_true_eq_false, not_false_eq_true, and_true, true_and, and_self, forall_eq, pc_d1, pc_dm1, pc_dm2, pc_dm3]
              exact ⟨fun _ => D _ (pq_succ fle) _, fun _ => D _ (pq_succ fle) _⟩
            · simp only [wX_deliver_109, wpX_deliveredState, wpX_cellOf, et, vt8, pc_cell, ec, vc32, true_implies, false_implies, not_true_eq_false, not_false_eq_true, and_true, true_and, and_self, forall_eq, pc_d1, pc_dm1, pc_dm2, pc_dm3]
              exact ⟨fun _ => D _ (Int32.not_le.mp z) _, fun _ => D _ (Int32.not_le.mp z) _⟩
          · exact br_f hnz (R _)
        · rcases hu with y | y
          · simp only [wpX_deliver, wpX_isTxn, wpX_isSlot, wpX_isDelivered, wpX_isDecided, wpX_cellOf, f1, f2, et, vt8, s1, s2, pc_cell, ec, vc32, hz, y, true_implies, false_implies, not_true_eq_false, not_false_eq_true, and_true, true_and, and_self, forall_eq, pc_d1, pc_dm1, pc_dm2, pc_dm3]
            exact R _
          · have y3 : ¬ st t = 3 := by rw [y]; decide
            simp only [wpX_deliver, wpX_isTxn, wpX_isSlot, wpX_isDelivered, wpX_isDecided, wpX_cellOf, f1, f2, et, vt8, s1, s2, pc_cell, ec, vc32, hz, y3, true_implies, false_implies, not_true_eq_false, not_false_eq_true, and_true, true_and, and_self, forall_eq, pc_d1, pc_dm1, pc_dm2, pc_dm3]
            simp only [y, true_implies, false_implies, not_true_eq_false, not_false_eq_true, and_true, true_and, and_self, forall_eq, pc_d1, pc_dm1, pc_dm2, pc_dm3]
            exact R _
      · simp only [wpX_deliver, wpX_isTxn, wpX_isSlot, wpX_isDelivered, wpX_cellOf, f1, f2, et, vt8, s1, s2, pc_cell, ec, vc32, hz, true_implies, false_implies, not_true_eq_false, not_false_eq_true, and_true, true_and, and_self, forall_eq, pc_d1, pc_dm1, pc_dm2, pc_dm3]
        exact R _
theorem po_finalize {M : Nat → Int32 → Int32 → Prop} {P : Nat → Prop} {u : St1} {post : Int32 → St1 → Prop} (h : pq_K M P u) (x : Int32) (hp : ∀ r u', pq_K M P u' → post r u') : wpX_finalize post u x := by
  obtain ⟨b, ca, vc, vt, vv, tt, st, al, sg, sc, ky, vl, pl, L, rfl, hJ, hX, hM, hP⟩ := h
  have R : ∀ r, post r (nI 8, nI b, ca, vc, vt, vv, tt, st, al, sg, sc, ky, vl, pl) := fun r => hp r _ ⟨_, _, _, _, _, _, _, _, _, _, _, _, _, _, rfl, hJ, hX, hM, hP⟩
  obtain ⟨⟨w, ⟨i1, i1'⟩, i2, i3, i4, i5, i6, i7, i8, i9, i10, i11, i12, i13⟩, j1, j2, j3, j4, j5, j6, j7, j8, j9⟩ := id hJ
  rcases pc_ix x b (by omega) with ⟨h, h'⟩ | ⟨h1, h2, h3, h4⟩ | ⟨t, ht, rfl⟩
  · simp only [wpX_finalize, wpX_coordinatorRefusal, wpX_isTxn, h, true_implies, false_implies, not_true_eq_false, not_false_eq_true, and_true, true_and, and_self, forall_eq, pc_d1, pc_dm1, pc_dm2, pc_dm3]
    exact R _
  · simp only [wpX_finalize, wpX_coordinatorRefusal, wpX_isTxn, h1, h4, true_implies, false_implies, not_true_eq_false, not_false_eq_true, and_true, true_and, and_self, forall_eq, pc_d1, pc_dm1, pc_dm2, pc_dm3]
    exact R _
  · have ht8 : t < 8 := by omega
    have et : (nI t).toNatClampNeg = t := nI_clamp (by omega)
    have vt8 : vp_in (nI t) 8 := vp_in_nI ht8 (by omega)
    have f1 : ¬ nI t < 0 := nI_pos (by omega)
    have f2 : ¬ nI b ≤ nI t := nI_ge ht (by omega)
    have n4 := (i7 t).1
    have en := (i7 t).2
    by_cases hs : st t = 2
    · by_cases ha : al t = 0
      · simp only [wpX_finalize, wpX_coordinatorRefusal, wpX_isTxn, f1, f2, et, vt8, hs, ha, true_implies, false_implies, not_true_eq_false, not_false_eq_true, and_true, true_and, and_self, forall_eq, pc_d1, pc_dm1, pc_dm2, pc_dm3]
        exact R _
      · have s3 : ¬ st t = 3 := by rw [hs]; decide
        have c7 := pc_cn_lt s3 8 ht8
        simp only [wpX_finalize, wpX_coordinatorRefusal, wpX_isTxn, f1, f2, et, vt8, hs, ha, true_implies, false_implies, not_true_eq_false, not_false_eq_true, and_true, true_and, and_self, forall_eq, pc_d1, pc_dm1, pc_dm2, pc_dm3]
        refine xh_allDel ht8 en n4 (fun hT => ?_) (fun hF => br_t (by trivial) (R _))
        refine br_f (by decide) (xh_decide ht8 en n4 i9 (i10 t) hX (fun q => by have := i12 q; omega) (fun hA => ?_) (fun hC vc' vt' vv' hX' => ?_))
        · have e := pq_abort hJ ht s3 (fun z => by obtain ⟨i, hi, y⟩ := hA; exact y (z.2.2 i hi))
          exact hp _ _ ⟨_, _, _, _, _, _, _, _, _, _, _, _, _, _, rfl, e.1, hX, fun k r a hk z => e.2.1 k r a hk (hM k r a hk z), fun t z => e.2.2 t (hP t z)⟩
        · have e := pq_commit (vl := vl) hJ ht hs en n4 hC
          exact hp _ _ ⟨_, _, _, _, _, _, _, _, _, _, _, _, _, _, rfl, e.1, hX', fun k r a hk z => e.2.1 k r a hk (hM k r a hk z), fun t z => e.2.2 t (hP t z)⟩
    · simp only [wpX_finalize, wpX_coordinatorRefusal, wpX_isTxn, f1, f2, et, vt8, hs, true_implies, false_implies, not_true_eq_false, not_false_eq_true, and_true, true_and, and_self, forall_eq, pc_d1, pc_dm1, pc_dm2, pc_dm3]
      exact R _
theorem po_recover {M : Nat → Int32 → Int32 → Prop} {P : Nat → Prop} {u : St1} {post : Int32 → St1 → Prop} (h : pq_K M P u) (x : Int32) (hp : ∀ r u', pq_K M P u' → post r u') : wpX_recover post u x := by
  obtain ⟨b, ca, vc, vt, vv, tt, st, al, sg, sc, ky, vl, pl, L, rfl, hJ, hX, hM, hP⟩ := h
  have R : ∀ r, post r (nI 8, nI b, ca, vc, vt, vv, tt, st, al, sg, sc, ky, vl, pl) := fun r => hp r _ ⟨_, _, _, _, _, _, _, _, _, _, _, _, _, _, rfl, hJ, hX, hM, hP⟩
  obtain ⟨⟨w, ⟨i1, i1'⟩, i2, i3, i4, i5, i6, i7, i8, i9, i10, i11, i12, i13⟩, j1, j2, j3, j4, j5, j6, j7, j8, j9⟩ := id hJ
  rcases pc_ix x b (by omega) with ⟨h, h'⟩ | ⟨h1, h2, h3, h4⟩ | ⟨t, ht, rfl⟩
  · simp only [wpX_recover, wpX_isTxn, h, true_implies, false_implies, not_true_eq_false, not_false_eq_true, and_true, true_and, and_self, forall_eq, pc_d1, pc_dm1, pc_dm2, pc_dm3]
    exact R _
  · simp only [wpX_recover, wpX_isTxn, h1, h4, true_implies, false_implies, not_true_eq_false, not_false_eq_true, and_true, true_and, and_self, forall_eq, pc_d1, pc_dm1, pc_dm2, pc_dm3]
    exact R _
  · have ht8 : t < 8 := by omega
    have et : (nI t).toNatClampNeg = t := nI_clamp (by omega)
    have vt8 : vp_in (nI t) 8 := vp_in_nI ht8 (by omega)
    have f1 : ¬ nI t < 0 := nI_pos (by omega)
    have f2 : ¬ nI b ≤ nI t := nI_ge ht (by omega)
    have n4 := (i7 t).1
    have en := (i7 t).2
    rcases i4 t ht with y | y | y | y
    · have y3 : ¬ st t = 3 := by rw [y]; decide
      have y4 : ¬ st t = 4 := by rw [y]; decide
      simp only [wpX_recover, wpX_isTxn, wpX_isDecided, wpX_abort, f1, f2, et, vt8, y3, y4, true_implies, false_implies, not_true_eq_false, not_false_eq_true, and_true, true_and, and_self, forall_eq, pc_d1, pc_dm1, pc_dm2, pc_dm3]
      simp only [y, true_implies, false_implies, not_true_eq_false, not_false_eq_true, and_true, true_and, and_self, forall_eq, pc_d1, pc_dm1, pc_dm2, pc_dm3]
      have e := pq_abort hJ ht y3 (fun z => absurd z.2.1 (by rw [j5 t ht y]; decide))
      exact hp _ _ ⟨_, _, _, _, _, _, _, _, _, _, _, _, _, _, rfl, e.1, hX, fun k r a hk z => e.2.1 k r a hk (hM k r a hk z), fun t z => e.2.2 t (hP t z)⟩
    · have y1 : ¬ st t = 1 := by rw [y]; decide
      have y3 : ¬ st t = 3 := by rw [y]; decide
      have y4 : ¬ st t = 4 := by rw [y]; decide
      have c7 := pc_cn_lt y3 8 ht8
      simp only [wpX_recover, wpX_isTxn, wpX_isDecided, f1, f2, et, vt8, y1, y3, y4, true_implies, false_implies, not_true_eq_false, not_false_eq_true, and_true, true_and, and_self, forall_eq, pc_d1, pc_dm1, pc_dm2, pc_dm3]
      have p := pq_pv (c := t * 4) hJ (j2 t) (pc_n sc t)
      refine xh_prevAll ht8 en n4 i9 (xh_decide ht8 en n4 i9 (i10 t) hX (fun q => by have := i12 q; omega) (fun hA => ?_) (fun hC vc' vt' vv' hX' => ?_))
      · have e := pq_abort p.1 ht y3 (fun z => by obtain ⟨i, hi, y⟩ := hA; exact y (z.2.2 i hi))
        have g := pq_go_trans p.2 e.2
        exact hp _ _ ⟨_, _, _, _, _, _, _, _, _, _, _, _, _, _, rfl, e.1, hX, fun k r a hk z => g.1 k r a hk (hM k r a hk z), fun t z => g.2 t (hP t z)⟩
      · have e := pq_commit (vl := vl) p.1 ht y en n4 hC
        have g := pq_go_trans p.2 e.2
        exact hp _ _ ⟨_, _, _, _, _, _, _, _, _, _, _, _, _, _, rfl, e.1, hX', fun k r a hk z => g.1 k r a hk (hM k r a hk z), fun t z => g.2 t (hP t z)⟩
    · simp only [wpX_recover, wpX_isTxn, wpX_isDecided, f1, f2, et, vt8, y, true_implies, false_implies, not_true_eq_false, not_false_eq_true, and_true, true_and, and_self, forall_eq, pc_d1, pc_dm1, pc_dm2, pc_dm3]
      exact R _
    · have y3 : ¬ st t = 3 := by rw [y]; decide
      simp only [wpX_recover, wpX_isTxn, wpX_isDecided, f1, f2, et, vt8, y3, true_implies, false_implies, not_true_eq_false, not_false_eq_true, and_true, true_and, and_self, forall_eq, pc_d1, pc_dm1, pc_dm2, pc_dm3]
      simp only [y, true_implies, false_implies, not_true_eq_false, not_false_eq_true, and_true, true_and, and_self, forall_eq, pc_d1, pc_dm1, pc_dm2, pc_dm3]
      exact R _
/-- what read saw is remembered with the rest, and a pair that was seen before answers as it did -/
theorem po_read {M : Nat → Int32 → Int32 → Prop} {P : Nat → Prop} {u : St1} {post : Int32 → St1 → Prop} (h : pq_K M P u) {q : Nat} {ts : Int32} (hq : q < 16) (h1 : ¬ ts < 1) (h2 : ¬ 1000000 < ts)
    (hp : ∀ r u', pq_K (fun k s a => M k s a ∨ (k = q ∧ s = ts ∧ a = r ∧ ¬ r = -10)) P u' → (∀ a, M q ts a → r = a) → post r u') : wpX_read post u (nI q) ts := by
  obtain ⟨b, ca, vc, vt, vv, tt, st, al, sg, sc, ky, vl, pl, L, rfl, hJ, hX, hM, hP⟩ := h
  obtain ⟨⟨w, ⟨i1, i1'⟩, i2, i3, i4, i5, i6, i7, i8, i9, i10, i11, i12, i13⟩, j1, j2, j3, j4, j5, j6, j7, j8, j9⟩ := id hJ
  have eq : (nI q).toNatClampNeg = q := nI_clamp (by omega)
  have q1 : ¬ nI q < 0 := nI_pos (by omega)
  have q2 : ¬ 16 ≤ nI q := nI_ge (b := 16) hq (by decide)
  have done : (∀ t i, pc_hit st sc ky pl (nI q) t i → ts < pl (t * 4 + i)) → wX_read_37 post (nI q) ts (nI 8) (nI b) ca vc vt vv tt st al sg sc ky vl pl := by
    intro hh
    unfold wX_read_37
    refine xh_raise hq (xh_last hq hX ?_)
    have e := pq_ra (q := q) hJ (Int32.not_lt.mp h2)
    refine hp _ _ ⟨_, _, _, _, _, _, _, _, _, _, _, _, _, _, rfl, e.1, hX, fun k r a hk z => ?_, fun t z => e.2.2 t (hP t z)⟩ (fun a ha => (hM q ts a hq ha).2.2)
    rcases z with z | ⟨rfl, rfl, rfl, _⟩
    · exact e.2.1 k r a hk (hM k r a hk z)
    · refine ⟨?_, hh, rfl⟩
      unfold pc_ra
      split
      · assumption
      · rw [pk_us]
        exact Int32.le_refl _
  simp only [wpX_read, wpX_isKey, wpX_isTimestamp, q1, q2, h1, h2, true_implies, false_implies, not_true_eq_false, not_false_eq_true, and_true, true_and, and_self, forall_eq, pc_d1, pc_dm1, pc_dm2, pc_dm3]
  refine xh_intentTs (by omega) i4 i7 i10 (fun hno => ?_) (fun s j hs hh hl hnz => ?_)
  · exact br_t (by trivial) (done (fun t i z => absurd z (hno t (pq_und_b i8 z.1) i)))
  · refine br_f hnz (br_c (fun z => done (fun t i y => ?_)) (fun z => ?_))
    · have e : s = t := j9 (nI q) s j t i hh y
      subst e
      rcases Nat.lt_trichotomy i j with g | g | g
      · exact absurd (y.2.2.2.trans hh.2.2.2.symm) (i10 s i j g hh.2.1)
      · rw [g]
        exact z
      · exact absurd (hh.2.2.2.trans y.2.2.2.symm) (i10 s j i g y.2.1)
    · refine hp _ _ ⟨_, _, _, _, _, _, _, _, _, _, _, _, _, _, rfl, hJ, hX, fun k r a hk y => ?_, hP⟩ (fun a ha => absurd ((hM q ts a hq ha).2.1 s j hh) z)
      rcases y with y | ⟨_, _, _, y⟩
      · exact hM k r a hk y
      · exact absurd rfl y
theorem po_status {b t : Nat} {ca vc vt vv tt st al sg sc ky vl pl : Nat → Int32} {L : Nat → List (Int32 × Int32)} (hJ : pq_J b ca tt st al sg sc ky pl L) (ht8 : t < 8) :
    ∃ s : Int32, (s = 0 ∨ s = 1 ∨ s = 2 ∨ s = 3 ∨ s = 4) ∧ (s = 3 → pq_imp b tt sg sc pl t) ∧ (s = 4 → ¬ pq_imp b tt sg sc pl t) ∧ ∀ post : Int32 → Prop, post s → wpX_status post (nI 8, nI b, ca, vc, vt, vv, tt, st, al, sg, sc, ky, vl, pl) (nI t) := by
  obtain ⟨⟨w, ⟨i1, i1'⟩, i2, i3, i4, i5, i6, i7, i8, i9, i10, i11, i12, i13⟩, j1, j2, j3, j4, j5, j6, j7, j8, j9⟩ := id hJ
  have et : (nI t).toNatClampNeg = t := nI_clamp (by omega)
  have vt8 : vp_in (nI t) 8 := vp_in_nI ht8 (by omega)
  have f1 : ¬ nI t < 0 := nI_pos (by omega)
  by_cases ht : t < b
  · have f2 : ¬ nI b ≤ nI t := nI_ge ht (by omega)
    refine ⟨st t, ?_, j7 t ht, j8 t ht, fun post hp => ?_⟩
    · exact Or.inr (i4 t ht)
    · simp only [wpX_status, wpX_isTxn, f1, f2, et, vt8, true_implies, false_implies, not_true_eq_false, not_false_eq_true, and_true, true_and, and_self, forall_eq, pc_d1, pc_dm1, pc_dm2, pc_dm3]
      exact hp
  · have f2 : nI b ≤ nI t := nI_le (by omega) (by omega)
    refine ⟨0, Or.inl rfl, fun z => absurd z (by decide), fun z => absurd z (by decide), fun post hp => ?_⟩
    simp only [wpX_status, wpX_isTxn, f1, f2, true_implies, false_implies, not_true_eq_false, not_false_eq_true, and_true, true_and, and_self, forall_eq, pc_d1, pc_dm1, pc_dm2, pc_dm3]
    exact hp
theorem po_imp {b t : Nat} {ca vc vt vv tt st al sg sc ky vl pl : Nat → Int32} {L : Nat → List (Int32 × Int32)} (hJ : pq_J b ca tt st al sg sc ky pl L) (ht8 : t < 8) :
    ∃ z : Int32, ((z = 0 ∧ ¬ pq_imp b tt sg sc pl t) ∨ (z = 1 ∧ pq_imp b tt sg sc pl t)) ∧ ∀ post : Int32 → Prop, post z → wpX_isImplicitlyCommitted post (nI 8, nI b, ca, vc, vt, vv, tt, st, al, sg, sc, ky, vl, pl) (nI t) := by
  obtain ⟨⟨w, ⟨i1, i1'⟩, i2, i3, i4, i5, i6, i7, i8, i9, i10, i11, i12, i13⟩, j1, j2, j3, j4, j5, j6, j7, j8, j9⟩ := id hJ
  have et : (nI t).toNatClampNeg = t := nI_clamp (by omega)
  have vt8 : vp_in (nI t) 8 := vp_in_nI ht8 (by omega)
  have f1 : ¬ nI t < 0 := nI_pos (by omega)
  have n4 := (i7 t).1
  have en := (i7 t).2
  by_cases ht : t < b
  · have f2 : ¬ nI b ≤ nI t := nI_ge ht (by omega)
    rcases i6 t with hg | hg
    · refine ⟨0, Or.inl ⟨rfl, fun z => absurd z.2.1 (by rw [hg]; decide)⟩, fun post hp => ?_⟩
      simp only [wpX_isImplicitlyCommitted, wpX_isTxn, f1, f2, et, vt8, hg, true_implies, false_implies, not_true_eq_false, not_false_eq_true, and_true, true_and, and_self, forall_eq, pc_d1, pc_dm1, pc_dm2, pc_dm3]
      exact hp
    · have hg0 : ¬ sg t = 0 := by rw [hg]; decide
      by_cases hA : ∀ i, i < pc_n sc t → pl (t * 4 + i) = tt t
      · refine ⟨1, Or.inr ⟨rfl, ht, hg, hA⟩, fun post hp => ?_⟩
        simp only [wpX_isImplicitlyCommitted, wpX_isTxn, f1, f2, et, vt8, hg0, true_implies, false_implies, not_true_eq_false, not_false_eq_true, and_true, true_and, and_self, forall_eq, pc_d1, pc_dm1, pc_dm2, pc_dm3]
        refine xh_allAt ht8 en n4 (fun _ => br_f (by decide) hp) (fun hF => ?_)
        obtain ⟨i, hi, y⟩ := hF
        exact absurd (hA i hi) y
      · refine ⟨0, Or.inl ⟨rfl, fun z => hA z.2.2⟩, fun post hp => ?_⟩
        simp only [wpX_isImplicitlyCommitted, wpX_isTxn, f1, f2, et, vt8, hg0, true_implies, false_implies, not_true_eq_false, not_false_eq_true, and_true, true_and, and_self, forall_eq, pc_d1, pc_dm1, pc_dm2, pc_dm3]
        exact xh_allAt ht8 en n4 (fun hT => absurd hT hA) (fun _ => br_t (by trivial) hp)
  · have f2 : nI b ≤ nI t := nI_le (by omega) (by omega)
    refine ⟨0, Or.inl ⟨rfl, fun z => ht z.1⟩, fun post hp => ?_⟩
    simp only [wpX_isImplicitlyCommitted, wpX_isTxn, f1, f2, true_implies, false_implies, not_true_eq_false, not_false_eq_true, and_true, true_and, and_self, forall_eq, pc_d1, pc_dm1, pc_dm2, pc_dm3]
    exact hp
