/-! ## the component's own methods and loops -/
section
variable {fc fb fw : Int32} {ca vc vt vv tt st al sg sc ky vl pl wk wt wv : Nat → Int32}
/-- a cache raised to x at q, if x is above -/
def pc_ra (ca : Nat → Int32) (q : Nat) (x : Int32) : Nat → Int32 := if x ≤ ca q then ca else upd ca q x
/-- the cache after the undelivered among the first i slots are prevented -/
def pc_pv (ca ky pl : Nat → Int32) (ts : Int32) (c : Nat) : Nat → Nat → Int32
  | 0 => ca
  | i + 1 => if pl (c + i) = 0 then pc_ra (pc_pv ca ky pl ts c i) (ky (c + i)).toNatClampNeg ts else pc_pv ca ky pl ts c i
theorem xh_writesKey {post : Int32 → Prop} {t n : Nat} {k : Int32} (ht : t < 8) (hn : sc t = nI n) (h4 : n ≤ 4)
    (hT : (∃ i, i < n ∧ ky (t * 4 + i) = k) → post 1) (hF : (∀ i, i < n → ¬ ky (t * 4 + i) = k) → post 0) : wpX_writesKey post (fc, fb, ca, vc, vt, vv, tt, st, al, sg, sc, ky, vl, pl) (nI t) k := by
  have et : (nI t).toNatClampNeg = t := nI_clamp (by omega)
  have vt8 : vp_in (nI t) 8 := vp_in_nI ht (by omega)
  refine pk_loop (σ := Unit) (fun f i _ => wX_writesKey_2 post (nI t) k fc fb ca vc vt vv tt st al sg sc ky vl pl f (nI i)) (fun i _ => ∀ j, j < i → ¬ ky (t * 4 + j) = k) n 0 () (Nat.zero_le n) (fun j hj => absurd hj (by omega)) ?_ ?_
  · intro f _ I
    simp only [wX_writesKey_2, et, hn]
    exact ⟨vt8, br_t (nI_le (Nat.le_refl n) (by omega)) (hF I)⟩
  · intro f i _ hi I hw
    have ec : (nI (t * 4 + i)).toNatClampNeg = t * 4 + i := nI_clamp (by omega)
    simp only [wX_writesKey_2, wpX_cellOf, et, hn, pc_cell, ec]
    refine ⟨vt8, br_f (nI_ge hi (by omega)) ⟨vp_in_nI (by omega) (by omega), br_c (fun z => hT ⟨i, hi, z⟩) (fun z => nm_r (nI_1 i) (hw () ?_))⟩⟩
    exact lt_s I z
theorem xh_placedOn {post : Int32 → Prop} {t n : Nat} {k : Int32} (ht : t < 8) (hn : sc t = nI n) (h4 : n ≤ 4)
    (hT : ∀ i, i < n → ky (t * 4 + i) = k → post (pl (t * 4 + i))) (hF : (∀ i, i < n → ¬ ky (t * 4 + i) = k) → post 0) : wpX_placedOn post (fc, fb, ca, vc, vt, vv, tt, st, al, sg, sc, ky, vl, pl) (nI t) k := by
  have et : (nI t).toNatClampNeg = t := nI_clamp (by omega)
  have vt8 : vp_in (nI t) 8 := vp_in_nI ht (by omega)
  refine pk_loop (σ := Unit) (fun f i _ => wX_placedOn_2 post (nI t) k fc fb ca vc vt vv tt st al sg sc ky vl pl f (nI i)) (fun i _ => ∀ j, j < i → ¬ ky (t * 4 + j) = k) n 0 () (Nat.zero_le n) (fun j hj => absurd hj (by omega)) ?_ ?_
  · intro f _ I
    simp only [wX_placedOn_2, et, hn]
    exact ⟨vt8, br_t (nI_le (Nat.le_refl n) (by omega)) (hF I)⟩
  · intro f i _ hi I hw
    have ec : (nI (t * 4 + i)).toNatClampNeg = t * 4 + i := nI_clamp (by omega)
    simp only [wX_placedOn_2, wpX_cellOf, et, hn, pc_cell, ec]
    refine ⟨vt8, br_f (nI_ge hi (by omega)) ⟨vp_in_nI (by omega) (by omega), br_c (fun z => ⟨vp_in_nI (by omega) (by omega), hT i hi z⟩) (fun z => nm_r (nI_1 i) (hw () ?_))⟩⟩
    exact lt_s I z
theorem xh_intentTs {post : Int32 → Prop} {b : Nat} {k : Int32} (hb : b ≤ 8) (hst : ∀ t, t < b → (st t = 1 ∨ st t = 2 ∨ st t = 3 ∨ st t = 4)) (hsc : ∀ t, pc_n sc t ≤ 4 ∧ sc t = nI (pc_n sc t))
    (hd : ∀ t i j, i < j → j < pc_n sc t → ¬ ky (t * 4 + i) = ky (t * 4 + j))
    (h0 : (∀ t, t < b → ∀ i, ¬ pc_hit st sc ky pl k t i) → post 0)
    (h1 : ∀ t i, t < b → pc_hit st sc ky pl k t i → (∀ s, s < t → ∀ j, ¬ pc_hit st sc ky pl k s j) → ¬ pl (t * 4 + i) = 0 → post (pl (t * 4 + i))) : wpX_intentTs post (fc, nI b, ca, vc, vt, vv, tt, st, al, sg, sc, ky, vl, pl) k := by
  refine pk_loop (σ := Unit) (fun f i _ => wX_intentTs_2 post k fc (nI b) ca vc vt vv tt st al sg sc ky vl pl f (nI i)) (fun i _ => ∀ s, s < i → ∀ j, ¬ pc_hit st sc ky pl k s j) b 0 () (Nat.zero_le b) (fun j hj => absurd hj (by omega)) ?_ ?_
  · intro f _ I
    simp only [wX_intentTs_2]
    exact br_t (nI_le (Nat.le_refl b) (by omega)) (h0 I)
  · intro f t _ ht I hw
    have et : (nI t).toNatClampNeg = t := nI_clamp (by omega)
    have vt8 : vp_in (nI t) 8 := vp_in_nI (by omega) (by omega)
    simp only [wX_intentTs_2, wpX_isDecided, wX_intentTs_28, et]
    refine br_f (nI_ge ht (by omega)) ⟨vt8, ?_⟩
    by_cases e3 : st t = 3
    · refine br_t e3 (br_f (by decide) (br_t (by trivial) (nm_r (nI_1 t) (hw () (lt_s I (fun j z => ?_))))))
      rcases z.1 with y | y <;> rw [e3] at y <;> exact absurd y (by decide)
    · refine br_f e3 ⟨vt8, ?_⟩
      by_cases e4 : st t = 4
      · refine br_t e4 (br_f (by decide) (br_t (by trivial) (nm_r (nI_1 t) (hw () (lt_s I (fun j z => ?_))))))
        rcases z.1 with y | y <;> rw [e4] at y <;> exact absurd y (by decide)
      · have hu : pc_und st t := by
          rcases hst t ht with y | y | y | y
          · exact Or.inl y
          · exact Or.inr y
          · exact absurd y e3
          · exact absurd y e4
        refine br_f e4 (br_t (by trivial) (xh_placedOn (by omega) (hsc t).2 (hsc t).1 (fun i hi ek => ?_) (fun hF => ?_)))
        · refine br_c (fun z => nm_r (nI_1 t) (hw () (lt_s I (fun j y => ?_)))) (fun z => h1 t i ht ⟨hu, hi, z, ek⟩ I z)
          obtain ⟨_, y2, y3, y4⟩ := y
          rcases Nat.lt_trichotomy i j with g | g | g
          · exact hd t i j g y2 (ek.trans y4.symm)
          · subst g
            exact y3 z
          · exact hd t j i g hi (y4.trans ek.symm)
        · exact br_t (by trivial) (nm_r (nI_1 t) (hw () (lt_s I (fun j y => hF j y.2.1 y.2.2.2))))
theorem xh_floorOf {post : Int32 → Prop} {q : Nat} {L : Nat → List (Int32 × Int32)} (hq : q < 16) (hV : pc_XV vc vt vv L) (hp : post ((L q).foldl pc_g (ca q))) : wpX_floorOf post (fc, fb, ca, vc, vt, vv, tt, st, al, sg, sc, ky, vl, pl) (nI q) := by
  obtain ⟨n, hn, en, el⟩ := hV q hq
  have eq : (nI q).toNatClampNeg = q := nI_clamp (by omega)
  have vq : vp_in (nI q) 16 := vp_in_nI hq (by omega)
  simp only [wpX_floorOf, eq, pc_m8]
  refine ⟨vq, nm_e (nm_e ?_)⟩
  refine pk_loop (σ := Int32) (fun f i s => wX_floorOf_15 post (nI q) (nI (q * 8)) fc fb ca vc vt vv tt st al sg sc ky vl pl f s (nI i)) (fun i s => s = (pc_xl vt vv q i).foldl pc_g (ca q)) n 0 (ca q) (Nat.zero_le n) rfl ?_ ?_
  · intro f s I
    simp only [wX_floorOf_15, eq, en]
    rw [el] at I
    exact ⟨vq, br_t (nI_le (Nat.le_refl n) (by omega)) (by rw [I]; exact hp)⟩
  · intro f i s hi I hw
    have ec : (nI (q * 8 + i)).toNatClampNeg = q * 8 + i := nI_clamp (by omega)
    have vcc : vp_in (nI (q * 8 + i)) 128 := vp_in_nI (by omega) (by omega)
    simp only [wX_floorOf_15, eq, en, nI_add, ec]
    refine ⟨vq, br_f (nI_ge hi (by omega)) ⟨vcc, br_c (fun z => nm_r (nI_1 i) (hw s ?_)) (fun z => ⟨vcc, nm_e (nm_r (nI_1 i) (hw _ ?_))⟩)⟩⟩
    · show s = (pc_xl vt vv q i ++ [(vt (q * 8 + i), vv (q * 8 + i))]).foldl pc_g (ca q)
      rw [List.foldl_append, ← I]
      exact (if_pos z).symm
    · show vt (q * 8 + i) = (pc_xl vt vv q i ++ [(vt (q * 8 + i), vv (q * 8 + i))]).foldl pc_g (ca q)
      rw [List.foldl_append, ← I]
      exact (if_neg z).symm
theorem xh_last {post : Int32 → Prop} {q : Nat} {ts : Int32} {L : Nat → List (Int32 × Int32)} (hq : q < 16) (hV : pc_XV vc vt vv L) (hp : post ((L q).foldl (pc_rd ts) (-9))) : wpX_lastValueUpTo post (fc, fb, ca, vc, vt, vv, tt, st, al, sg, sc, ky, vl, pl) (nI q) ts := by
  obtain ⟨n, hn, en, el⟩ := hV q hq
  have eq : (nI q).toNatClampNeg = q := nI_clamp (by omega)
  have vq : vp_in (nI q) 16 := vp_in_nI hq (by omega)
  simp only [wpX_lastValueUpTo, pc_m8]
  refine nm_e ?_
  refine pk_loop (σ := Int32) (fun f i s => wX_lastValueUpTo_12 post (nI q) ts (nI (q * 8)) fc fb ca vc vt vv tt st al sg sc ky vl pl f s (nI i)) (fun i s => s = (pc_xl vt vv q i).foldl (pc_rd ts) (-9)) n 0 (-9) (Nat.zero_le n) rfl ?_ ?_
  · intro f s I
    simp only [wX_lastValueUpTo_12, eq, en]
    rw [el] at I
    exact ⟨vq, br_t (nI_le (Nat.le_refl n) (by omega)) (by rw [I]; exact hp)⟩
  · intro f i s hi I hw
    have ec : (nI (q * 8 + i)).toNatClampNeg = q * 8 + i := nI_clamp (by omega)
    have vcc : vp_in (nI (q * 8 + i)) 128 := vp_in_nI (by omega) (by omega)
    simp only [wX_lastValueUpTo_12, eq, en, nI_add, ec]
    refine ⟨vq, br_f (nI_ge hi (by omega)) ⟨vcc, br_c (fun z => nm_r (nI_1 i) (hw s ?_)) (fun z => ⟨vcc, nm_e (nm_r (nI_1 i) (hw _ ?_))⟩)⟩⟩
    · show s = (pc_xl vt vv q i ++ [(vt (q * 8 + i), vv (q * 8 + i))]).foldl (pc_rd ts) (-9)
      rw [List.foldl_append, ← I]
      exact (if_pos z).symm
    · show vv (q * 8 + i) = (pc_xl vt vv q i ++ [(vt (q * 8 + i), vv (q * 8 + i))]).foldl (pc_rd ts) (-9)
      rw [List.foldl_append, ← I]
      exact (if_neg z).symm
theorem xh_allDel {post : Int32 → Prop} {t n : Nat} (ht : t < 8) (hn : sc t = nI n) (h4 : n ≤ 4)
    (hT : (∀ i, i < n → ¬ pl (t * 4 + i) = 0) → post 1) (hF : (∃ i, i < n ∧ pl (t * 4 + i) = 0) → post 0) : wpX_everySlotDelivered post (fc, fb, ca, vc, vt, vv, tt, st, al, sg, sc, ky, vl, pl) (nI t) := by
  have et : (nI t).toNatClampNeg = t := nI_clamp (by omega)
  have vt8 : vp_in (nI t) 8 := vp_in_nI ht (by omega)
  refine pk_loop (σ := Unit) (fun f i _ => wX_everySlotDelivered_2 post (nI t) fc fb ca vc vt vv tt st al sg sc ky vl pl f (nI i)) (fun i _ => ∀ j, j < i → ¬ pl (t * 4 + j) = 0) n 0 () (Nat.zero_le n) (fun j hj => absurd hj (by omega)) ?_ ?_
  · intro f _ I
    simp only [wX_everySlotDelivered_2, et, hn]
    exact ⟨vt8, br_t (nI_le (Nat.le_refl n) (by omega)) (hT I)⟩
  · intro f i _ hi I hw
    have ec : (nI (t * 4 + i)).toNatClampNeg = t * 4 + i := nI_clamp (by omega)
    simp only [wX_everySlotDelivered_2, wpX_isDelivered, wpX_cellOf, et, hn, pc_cell, ec]
    refine ⟨vt8, br_f (nI_ge hi (by omega)) ⟨vp_in_nI (by omega) (by omega), br_c (fun z => br_t (by trivial) (hF ⟨i, hi, z⟩)) (fun z => br_f (by decide) (nm_r (nI_1 i) (hw () ?_)))⟩⟩
    exact lt_s I z
theorem xh_allAt {post : Int32 → Prop} {t n : Nat} (ht : t < 8) (hn : sc t = nI n) (h4 : n ≤ 4)
    (hT : (∀ i, i < n → pl (t * 4 + i) = tt t) → post 1) (hF : (∃ i, i < n ∧ ¬ pl (t * 4 + i) = tt t) → post 0) : wpX_everySlotAtTs post (fc, fb, ca, vc, vt, vv, tt, st, al, sg, sc, ky, vl, pl) (nI t) := by
  have et : (nI t).toNatClampNeg = t := nI_clamp (by omega)
  have vt8 : vp_in (nI t) 8 := vp_in_nI ht (by omega)
  refine pk_loop (σ := Unit) (fun f i _ => wX_everySlotAtTs_2 post (nI t) fc fb ca vc vt vv tt st al sg sc ky vl pl f (nI i)) (fun i _ => ∀ j, j < i → pl (t * 4 + j) = tt t) n 0 () (Nat.zero_le n) (fun j hj => absurd hj (by omega)) ?_ ?_
  · intro f _ I
    simp only [wX_everySlotAtTs_2, et, hn]
    exact ⟨vt8, br_t (nI_le (Nat.le_refl n) (by omega)) (hT I)⟩
  · intro f i _ hi I hw
    have ec : (nI (t * 4 + i)).toNatClampNeg = t * 4 + i := nI_clamp (by omega)
    simp only [wX_everySlotAtTs_2, wpX_cellOf, et, hn, pc_cell, ec]
    refine ⟨vt8, br_f (nI_ge hi (by omega)) ⟨vp_in_nI (by omega) (by omega), vt8, br_c (fun z => nm_r (nI_1 i) (hw () ?_)) (fun z => hF ⟨i, hi, z⟩)⟩⟩
    exact lt_s I z
theorem xh_append {post : St1 → Prop} {q n : Nat} {x v : Int32} (hq : q < 16) (hn : vc q = nI n) (h8 : n < 8)
    (hp : post (fc, fb, ca, upd vc q (nI (n + 1)), upd vt (q * 8 + n) x, upd vv (q * 8 + n) v, tt, st, al, sg, sc, ky, vl, pl)) : wpX_appendVersion post (fc, fb, ca, vc, vt, vv, tt, st, al, sg, sc, ky, vl, pl) (nI q) x v := by
  have eq : (nI q).toNatClampNeg = q := nI_clamp (by omega)
  have vq : vp_in (nI q) 16 := vp_in_nI hq (by omega)
  have ec : (nI (q * 8 + n)).toNatClampNeg = q * 8 + n := nI_clamp (by omega)
  have vcc : vp_in (nI (q * 8 + n)) 128 := vp_in_nI (by omega) (by omega)
  simp only [wpX_appendVersion, eq, hn, pc_m8, nI_add]
  refine ⟨vq, nm_e (br_f (nI_ge (b := 8) h8 (by decide)) (nm_r (nI_add (q * 8) n) ⟨vcc, nm_e ⟨vcc, nm_e ⟨vq, nm_e ?_⟩⟩⟩))⟩
  rw [ec, nI_1 n]
  exact hp
theorem xh_commit {post : Int32 → St1 → Prop} {t n : Nat} {L : Nat → List (Int32 × Int32)} (ht : t < 8) (hn : sc t = nI n) (h4 : n ≤ 4) (hky : ∀ c, ∃ q, q < 16 ∧ ky c = nI q)
    (hd : ∀ i j, i < j → j < n → ¬ ky (t * 4 + i) = ky (t * 4 + j)) (hV : pc_XV vc vt vv L) (hL : ∀ q, (L q).length ≤ 7)
    (hp : ∀ vc' vt' vv', pc_XV vc' vt' vv' (pc_cm ky vl (tt t) (t * 4) L n) → post 3 (fc, fb, ca, vc', vt', vv', tt, upd st t 3, al, sg, sc, ky, vl, pl)) : wpX_commit post (fc, fb, ca, vc, vt, vv, tt, st, al, sg, sc, ky, vl, pl) (nI t) := by
  have et : (nI t).toNatClampNeg = t := nI_clamp (by omega)
  have vt8 : vp_in (nI t) 8 := vp_in_nI ht (by omega)
  simp only [wpX_commit, et]
  refine ⟨vt8, nm_e ?_⟩
  refine pk_loop (σ := (Nat → Int32) × (Nat → Int32) × (Nat → Int32)) (fun f i s => wX_commit_9 post (nI t) f (nI i) fc fb ca s.1 s.2.1 s.2.2 tt (upd st t 3) al sg sc ky vl pl) (fun i s => pc_XV s.1 s.2.1 s.2.2 (pc_cm ky vl (tt t) (t * 4) L i)) n 0 (vc, vt, vv) (Nat.zero_le n) hV ?_ ?_
  · intro f s I
    simp only [wX_commit_9, et, hn]
    exact ⟨vt8, br_t (nI_le (Nat.le_refl n) (by omega)) (hp _ _ _ I)⟩
  · intro f i s hi I hw
    obtain ⟨s1, s2, s3⟩ := s
    have ec : (nI (t * 4 + i)).toNatClampNeg = t * 4 + i := nI_clamp (by omega)
    obtain ⟨q, hq, ek⟩ := hky (t * 4 + i)
    have I' : pc_XV s1 s2 s3 (pc_cm ky vl (tt t) (t * 4) L i) := I
    obtain ⟨m, hm, em, el⟩ := I' q hq
    have hm8 : m < 8 := by
      have a := pc_xl_len s2 s3 q m
      rw [el, pc_cm_un i (fun j hj z => hd j i hj hi (z.trans ek.symm))] at a
      have := hL q
      omega
    simp only [wX_commit_9, wpX_cellOf, et, hn, pc_cell, ec, ek]
    refine ⟨vt8, br_f (nI_ge hi (by omega)) ⟨vp_in_nI (by omega) (by omega), vt8, vp_in_nI (by omega) (by omega), xh_append hq em hm8 (nm_r (nI_1 i) ?_)⟩⟩
    have a := pc_XV_ap (ts := tt t) (v := vl (t * 4 + i)) I' hq em hm8
    refine hw (upd s1 q (nI (m + 1)), upd s2 (q * 8 + m) (tt t), upd s3 (q * 8 + m) (vl (t * 4 + i))) ?_
    rw [← ek] at a
    exact a
theorem xh_raise {post : St1 → Prop} {q : Nat} {x : Int32} (hq : q < 16) (hp : post (fc, fb, pc_ra ca q x, vc, vt, vv, tt, st, al, sg, sc, ky, vl, pl)) : wpX_raiseCache post (fc, fb, ca, vc, vt, vv, tt, st, al, sg, sc, ky, vl, pl) (nI q) x := by
  have eq : (nI q).toNatClampNeg = q := nI_clamp (by omega)
  have vq : vp_in (nI q) 16 := vp_in_nI hq (by omega)
  simp only [wpX_raiseCache, eq]
  unfold pc_ra at hp
  refine ⟨vq, br_c (fun z => ?_) (fun z => ⟨vq, nm_e ?_⟩)⟩
  · rw [if_pos z] at hp
    exact hp
  · rw [if_neg z] at hp
    exact hp
theorem xh_prevent {post : St1 → Prop} {t i : Nat} (ht : t < 8) (hi : i < 4) (hky : ∀ c, ∃ q, q < 16 ∧ ky c = nI q) (hp : post (fc, fb, pc_ra ca (ky (t * 4 + i)).toNatClampNeg (tt t), vc, vt, vv, tt, st, al, sg, sc, ky, vl, pl)) : wpX_prevent post (fc, fb, ca, vc, vt, vv, tt, st, al, sg, sc, ky, vl, pl) (nI t) (nI i) := by
  have et : (nI t).toNatClampNeg = t := nI_clamp (by omega)
  have vt8 : vp_in (nI t) 8 := vp_in_nI ht (by omega)
  have ec : (nI (t * 4 + i)).toNatClampNeg = t * 4 + i := nI_clamp (by omega)
  obtain ⟨q, hq, ek⟩ := hky (t * 4 + i)
  have eq : (nI q).toNatClampNeg = q := nI_clamp (by omega)
  rw [ek, eq] at hp
  simp only [wpX_prevent, wpX_cellOf, et, pc_cell, ec, ek]
  exact ⟨vp_in_nI (by omega) (by omega), vt8, xh_raise hq hp⟩
theorem xh_prevAll {post : St1 → Prop} {t n : Nat} (ht : t < 8) (hn : sc t = nI n) (h4 : n ≤ 4) (hky : ∀ c, ∃ q, q < 16 ∧ ky c = nI q)
    (hp : post (fc, fb, pc_pv ca ky pl (tt t) (t * 4) n, vc, vt, vv, tt, st, al, sg, sc, ky, vl, pl)) : wpX_preventUndelivered post (fc, fb, ca, vc, vt, vv, tt, st, al, sg, sc, ky, vl, pl) (nI t) := by
  have et : (nI t).toNatClampNeg = t := nI_clamp (by omega)
  have vt8 : vp_in (nI t) 8 := vp_in_nI ht (by omega)
  refine pk_loop (σ := Nat → Int32) (fun f i s => wX_preventUndelivered_2 post (nI t) f (nI i) fc fb s vc vt vv tt st al sg sc ky vl pl) (fun i s => s = pc_pv ca ky pl (tt t) (t * 4) i) n 0 ca (Nat.zero_le n) rfl ?_ ?_
  · intro f s I
    simp only [wX_preventUndelivered_2, et, hn]
    exact ⟨vt8, br_t (nI_le (Nat.le_refl n) (by omega)) (by rw [I]; exact hp)⟩
  · intro f i s hi I hw
    have ec : (nI (t * 4 + i)).toNatClampNeg = t * 4 + i := nI_clamp (by omega)
    simp only [wX_preventUndelivered_2, wpX_isDelivered, wpX_cellOf, et, hn, pc_cell, ec]
    refine ⟨vt8, br_f (nI_ge hi (by omega)) ⟨vp_in_nI (by omega) (by omega), br_c (fun z => br_t (by trivial) (xh_prevent ht (by omega) hky (nm_r (nI_1 i) (hw _ ?_)))) (fun z => br_f (by decide) (nm_r (nI_1 i) (hw _ ?_)))⟩⟩
    · show pc_ra s _ _ = (if pl (t * 4 + i) = 0 then pc_ra (pc_pv ca ky pl (tt t) (t * 4) i) (ky (t * 4 + i)).toNatClampNeg (tt t) else pc_pv ca ky pl (tt t) (t * 4) i)
      rw [if_pos z, I]
    · show s = (if pl (t * 4 + i) = 0 then pc_ra (pc_pv ca ky pl (tt t) (t * 4) i) (ky (t * 4 + i)).toNatClampNeg (tt t) else pc_pv ca ky pl (tt t) (t * 4) i)
      rw [if_neg z, I]
end
