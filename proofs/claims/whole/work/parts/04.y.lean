/-! ## the reference's own methods and loops -/
section
variable {fc fb fw : Int32} {ca vc vt vv tt st al sg sc ky vl pl wk wt wv : Nat → Int32}
theorem pc_lt4 {i n : Nat} (hi : i < n) (h4 : n ≤ 4) : ¬ (4 : Int32) ≤ nI i := nI_ge (b := 4) (by omega) (by decide)
theorem pc_lt8 {i n : Nat} (hi : i < n) (h4 : n ≤ 8) : ¬ (8 : Int32) ≤ nI i := nI_ge (b := 8) (by omega) (by decide)
theorem pc_lt32 {i n : Nat} (hi : i < n) (h4 : n ≤ 32) : ¬ (32 : Int32) ≤ nI i := nI_ge (b := 32) (by omega) (by decide)
theorem yh_floorOf {post : Int32 → Prop} {q w : Nat} {L : Nat → List (Int32 × Int32)} (hq : q < 16) (hw32 : w ≤ 32) (hc : ¬ ca q < 0) (hV : pc_YV wk wt wv w L) (hp : post ((L q).foldl pc_g (ca q))) : wpY_floorOf post (fc, fb, nI w, tt, st, al, sg, sc, ky, vl, pl, ca, wk, wt, wv) (nI q) := by
  have eq : (nI q).toNatClampNeg = q := nI_clamp (by omega)
  have vq : vp_in (nI q) 16 := vp_in_nI hq (by omega)
  simp only [wpY_floorOf, eq]
  refine ⟨vq, nm_e (br_t (Int32.not_lt.mp hc) ?_)⟩
  refine pk_loop (σ := Int32) (fun f i s => wY_floorOf_15 post (nI q) fc fb (nI w) tt st al sg sc ky vl pl ca wk wt wv f s (nI i)) (fun i s => s = (pc_yl wk wt wv (nI q) i).foldl pc_g (ca q)) w 0 (ca q) (Nat.zero_le w) rfl ?_ ?_
  · intro f s I
    simp only [wY_floorOf_15]
    rw [hV q hq] at I
    exact br_t (nI_le (Nat.le_refl w) (by omega)) (by rw [I]; exact hp)
  · intro f i s hi I hw
    have ec : (nI i).toNatClampNeg = i := nI_clamp (by omega)
    have vcc : vp_in (nI i) 32 := vp_in_nI (by omega) (by omega)
    simp only [wY_floorOf_15, ec]
    refine br_f (nI_ge hi (by omega)) (br_f (pc_lt32 hi hw32) ⟨vcc, br_c (fun z => ⟨vcc, br_c (fun y => nm_r (nI_1 i) (hw s ?_)) (fun y => ⟨vcc, nm_e (nm_r (nI_1 i) (hw _ ?_))⟩)⟩) (fun z => nm_r (nI_1 i) (hw s ?_))⟩)
    · show s = (if wk i = nI q then pc_yl wk wt wv (nI q) i ++ [(wt i, wv i)] else pc_yl wk wt wv (nI q) i).foldl pc_g (ca q)
      rw [if_pos z, List.foldl_append, ← I]
      exact (if_pos y).symm
    · show wt i = (if wk i = nI q then pc_yl wk wt wv (nI q) i ++ [(wt i, wv i)] else pc_yl wk wt wv (nI q) i).foldl pc_g (ca q)
      rw [if_pos z, List.foldl_append, ← I]
      exact (if_neg y).symm
    · show s = (if wk i = nI q then pc_yl wk wt wv (nI q) i ++ [(wt i, wv i)] else pc_yl wk wt wv (nI q) i).foldl pc_g (ca q)
      rw [if_neg z, ← I]
theorem yh_last {post : Int32 → SY → Prop} {q w : Nat} {ts : Int32} {L : Nat → List (Int32 × Int32)} (hq : q < 16) (hw32 : w ≤ 32) (hV : pc_YV wk wt wv w L) (hp : post ((L q).foldl (pc_rd ts) (-9)) (fc, fb, nI w, tt, st, al, sg, sc, ky, vl, pl, ca, wk, wt, wv)) : ∃ n, wY_read_71 post (nI q) ts fc fb (nI w) tt st al sg sc ky vl pl ca wk wt wv n (-9) 0 := by
  refine pk_loop (σ := Int32) (fun f i s => wY_read_71 post (nI q) ts fc fb (nI w) tt st al sg sc ky vl pl ca wk wt wv f s (nI i)) (fun i s => s = (pc_yl wk wt wv (nI q) i).foldl (pc_rd ts) (-9)) w 0 (-9) (Nat.zero_le w) rfl ?_ ?_
  · intro f s I
    simp only [wY_read_71]
    rw [hV q hq] at I
    exact br_t (nI_le (Nat.le_refl w) (by omega)) (by rw [I]; exact hp)
  · intro f i s hi I hw
    have ec : (nI i).toNatClampNeg = i := nI_clamp (by omega)
    have vcc : vp_in (nI i) 32 := vp_in_nI (by omega) (by omega)
    simp only [wY_read_71, ec]
    refine br_f (nI_ge hi (by omega)) (br_f (pc_lt32 hi hw32) ⟨vcc, br_c (fun z => ⟨vcc, br_c (fun y => nm_r (nI_1 i) (hw s ?_)) (fun y => ⟨vcc, nm_e (nm_r (nI_1 i) (hw _ ?_))⟩)⟩) (fun z => nm_r (nI_1 i) (hw s ?_))⟩)
    · show s = (if wk i = nI q then pc_yl wk wt wv (nI q) i ++ [(wt i, wv i)] else pc_yl wk wt wv (nI q) i).foldl (pc_rd ts) (-9)
      rw [if_pos z, List.foldl_append, ← I]
      exact (if_pos y).symm
    · show wv i = (if wk i = nI q then pc_yl wk wt wv (nI q) i ++ [(wt i, wv i)] else pc_yl wk wt wv (nI q) i).foldl (pc_rd ts) (-9)
      rw [if_pos z, List.foldl_append, ← I]
      exact (if_neg y).symm
    · show s = (if wk i = nI q then pc_yl wk wt wv (nI q) i ++ [(wt i, wv i)] else pc_yl wk wt wv (nI q) i).foldl (pc_rd ts) (-9)
      rw [if_neg z, ← I]
theorem yh_intentOn {post : Int32 → Prop} {b : Nat} {k : Int32} (hb : b ≤ 8) (hsc : ∀ t, pc_n sc t ≤ 4 ∧ sc t = nI (pc_n sc t))
    (h0 : (∀ t, t < b → ∀ i, ¬ pc_hit st sc ky pl k t i) → post (-1))
    (h1 : ∀ t i, t < b → i < 4 → pc_hit st sc ky pl k t i → (∀ s, s < t → ∀ j, ¬ pc_hit st sc ky pl k s j) → post (nI (t * 4 + i))) : wpY_intentOn post (fc, nI b, fw, tt, st, al, sg, sc, ky, vl, pl, ca, wk, wt, wv) k := by
  refine pk_loop (σ := Unit) (fun f i _ => wY_intentOn_2 post k fc (nI b) fw tt st al sg sc ky vl pl ca wk wt wv f (nI i)) (fun i _ => ∀ s, s < i → ∀ j, ¬ pc_hit st sc ky pl k s j) b 0 () (Nat.zero_le b) (fun j hj => absurd hj (by omega)) ?_ ?_
  · intro f _ I
    simp only [wY_intentOn_2]
    exact br_t (nI_le (Nat.le_refl b) (by omega)) (h0 I)
  · intro f t _ ht I hw
    have et : (nI t).toNatClampNeg = t := nI_clamp (by omega)
    have vt8 : vp_in (nI t) 8 := vp_in_nI (by omega) (by omega)
    have hn := (hsc t).2
    have h4 := (hsc t).1
    have inner : pc_und st t → ∃ n29, wY_intentOn_29 post (wY_intentOn_2 post k fc (nI b) fw tt st al sg sc ky vl pl ca wk wt wv f) k (nI t) fc (nI b) fw tt st al sg sc ky vl pl ca wk wt wv n29 0 := by
      intro hu
      refine pk_loop (σ := Unit) (fun g i _ => wY_intentOn_29 post (wY_intentOn_2 post k fc (nI b) fw tt st al sg sc ky vl pl ca wk wt wv f) k (nI t) fc (nI b) fw tt st al sg sc ky vl pl ca wk wt wv g (nI i)) (fun i _ => ∀ j, j < i → ¬ pc_hit st sc ky pl k t j) (pc_n sc t) 0 () (Nat.zero_le _) (fun j hj => absurd hj (by omega)) ?_ ?_
      · intro g _ J
        simp only [wY_intentOn_29, et]
        rw [hn]
        exact ⟨vt8, br_t (nI_le (Nat.le_refl _) (by omega)) (nm_r (nI_1 t) (hw () (lt_s I (fun j z => J j z.2.1 z))))⟩
      · intro g i _ hi J hv
        have ec : (nI (t * 4 + i)).toNatClampNeg = t * 4 + i := nI_clamp (by omega)
        have vcc : vp_in (nI (t * 4 + i)) 32 := vp_in_nI (by omega) (by omega)
        simp only [wY_intentOn_29, et, pc_cell]
        rw [hn]
        refine ⟨vt8, br_f (nI_ge hi (by omega)) (br_f (pc_lt4 hi h4) (nm_e ⟨vcc, ?_⟩))⟩
        rw [ec]
        refine br_c (fun z => nm_r (nI_1 i) (hv () (lt_s J (fun y => y.2.2.1 z)))) (fun z => ⟨vcc, br_c (fun y => h1 t i ht (by omega) ⟨hu, hi, z, y⟩ I) (fun y => nm_r (nI_1 i) (hv () (lt_s J (fun x => y x.2.2.2))))⟩)
    simp only [wY_intentOn_2, wpY_undecided, et]
    refine br_f (nI_ge ht (by omega)) (br_f (pc_lt8 ht hb) ⟨vt8, ?_⟩)
    refine br_c (fun e1 => br_f (by decide) (inner (Or.inl e1))) (fun e1 => ⟨vt8, br_c (fun e2 => br_f (by decide) (inner (Or.inr e2))) (fun e2 => br_t (by trivial) (nm_r (nI_1 t) (hw () (lt_s I (fun j z => ?_)))))⟩)
    rcases z.1 with y | y
    · exact e1 y
    · exact e2 y
theorem yh_allAt {post : Int32 → Prop} {t n : Nat} (ht : t < 8) (hn : sc t = nI n) (h4 : n ≤ 4)
    (hT : (∀ i, i < n → pl (t * 4 + i) = tt t) → post 1) (hF : (∃ i, i < n ∧ ¬ pl (t * 4 + i) = tt t) → post 0) : wpY_allAtTs post (fc, fb, fw, tt, st, al, sg, sc, ky, vl, pl, ca, wk, wt, wv) (nI t) := by
  have et : (nI t).toNatClampNeg = t := nI_clamp (by omega)
  have vt8 : vp_in (nI t) 8 := vp_in_nI ht (by omega)
  refine pk_loop (σ := Unit) (fun f i _ => wY_allAtTs_2 post (nI t) fc fb fw tt st al sg sc ky vl pl ca wk wt wv f (nI i)) (fun i _ => ∀ j, j < i → pl (t * 4 + j) = tt t) n 0 () (Nat.zero_le n) (fun j hj => absurd hj (by omega)) ?_ ?_
  · intro f _ I
    simp only [wY_allAtTs_2, et, hn]
    exact ⟨vt8, br_t (nI_le (Nat.le_refl n) (by omega)) (hT I)⟩
  · intro f i _ hi I hw
    have ec : (nI (t * 4 + i)).toNatClampNeg = t * 4 + i := nI_clamp (by omega)
    simp only [wY_allAtTs_2, et, hn, pc_cell, ec]
    refine ⟨vt8, br_f (nI_ge hi (by omega)) (br_f (pc_lt4 hi h4) ⟨vp_in_nI (by omega) (by omega), vt8, br_c (fun z => nm_r (nI_1 i) (hw () ?_)) (fun z => hF ⟨i, hi, z⟩)⟩)⟩
    exact lt_s I z
theorem yh_abort {post : SY → Prop} {t : Nat} (ht : t < 8) (hp : post (fc, fb, fw, tt, upd st t 4, al, sg, sc, ky, vl, pl, ca, wk, wt, wv)) : wpY_decide post (fc, fb, fw, tt, st, al, sg, sc, ky, vl, pl, ca, wk, wt, wv) (nI t) 0 := by
  have et : (nI t).toNatClampNeg = t := nI_clamp (by omega)
  have vt8 : vp_in (nI t) 8 := vp_in_nI ht (by omega)
  simp only [wpY_decide, et]
  exact br_t (by trivial) ⟨vt8, nm_e hp⟩
theorem yh_commit {post : SY → Prop} {t n w : Nat} {L : Nat → List (Int32 × Int32)} (ht : t < 8) (hn : sc t = nI n) (h4 : n ≤ 4) (hw28 : w ≤ 28) (hV : pc_YV wk wt wv w L)
    (hp : ∀ wk' wt' wv', pc_YV wk' wt' wv' (w + n) (pc_cm ky vl (tt t) (t * 4) L n) → post (fc, fb, nI (w + n), tt, upd st t 3, al, sg, sc, ky, vl, pl, ca, wk', wt', wv')) : wpY_decide post (fc, fb, nI w, tt, st, al, sg, sc, ky, vl, pl, ca, wk, wt, wv) (nI t) 1 := by
  have et : (nI t).toNatClampNeg = t := nI_clamp (by omega)
  have vt8 : vp_in (nI t) 8 := vp_in_nI ht (by omega)
  simp only [wpY_decide, et]
  refine br_f (by decide) ⟨vt8, nm_e ?_⟩
  refine pk_loop (σ := (Nat → Int32) × (Nat → Int32) × (Nat → Int32)) (fun f i s => wY_decide_13 post (nI t) fc fb f (nI i) (nI (w + i)) tt (upd st t 3) al sg sc ky vl pl ca s.1 s.2.1 s.2.2) (fun i s => pc_YV s.1 s.2.1 s.2.2 (w + i) (pc_cm ky vl (tt t) (t * 4) L i)) n 0 (wk, wt, wv) (Nat.zero_le n) hV ?_ ?_
  · intro f s I
    simp only [wY_decide_13, et, hn]
    exact ⟨vt8, br_t (nI_le (Nat.le_refl n) (by omega)) (hp _ _ _ I)⟩
  · intro f i s hi I hw
    obtain ⟨s1, s2, s3⟩ := s
    have ec : (nI (t * 4 + i)).toNatClampNeg = t * 4 + i := nI_clamp (by omega)
    have ew : (nI (w + i)).toNatClampNeg = w + i := nI_clamp (by omega)
    have vcc : vp_in (nI (t * 4 + i)) 32 := vp_in_nI (by omega) (by omega)
    have vw : vp_in (nI (w + i)) 32 := vp_in_nI (by omega) (by omega)
    have I' : pc_YV s1 s2 s3 (w + i) (pc_cm ky vl (tt t) (t * 4) L i) := I
    simp only [wY_decide_13, et, hn, pc_cell, ec, ew]
    refine ⟨vt8, br_f (nI_ge hi (by omega)) (br_f (pc_lt4 hi h4) (br_f (nI_ge (b := 32) (by omega) (by decide)) ⟨vcc, vw, nm_e ⟨vt8, vw, nm_e ⟨vcc, vw, nm_e (nm_r (nI_1 (w + i)) (nm_r (nI_1 i) ?_))⟩⟩⟩))⟩
    exact hw (upd s1 (w + i) (ky (t * 4 + i)), upd s2 (w + i) (tt t), upd s3 (w + i) (vl (t * 4 + i))) (pc_YV_ap I')
theorem yh_prevent {post : SY → Prop} {t i : Nat} (ht : t < 8) (hi : i < 4) (hky : ∀ c, ∃ q, q < 16 ∧ ky c = nI q) (hp : post (fc, fb, fw, tt, st, al, sg, sc, ky, vl, pl, pc_ra ca (ky (t * 4 + i)).toNatClampNeg (tt t), wk, wt, wv)) : wpY_prevent post (fc, fb, fw, tt, st, al, sg, sc, ky, vl, pl, ca, wk, wt, wv) (nI t) (nI i) := by
  have et : (nI t).toNatClampNeg = t := nI_clamp (by omega)
  have vt8 : vp_in (nI t) 8 := vp_in_nI ht (by omega)
  have ec : (nI (t * 4 + i)).toNatClampNeg = t * 4 + i := nI_clamp (by omega)
  have vcc : vp_in (nI (t * 4 + i)) 32 := vp_in_nI (by omega) (by omega)
  obtain ⟨q, hq, ek⟩ := hky (t * 4 + i)
  have eq : (nI q).toNatClampNeg = q := nI_clamp (by omega)
  have vq : vp_in (nI q) 16 := vp_in_nI hq (by omega)
  rw [ek, eq] at hp
  unfold pc_ra at hp
  simp only [wpY_prevent, et, pc_cell, ec, ek]
  refine ⟨vcc, nm_e ⟨vt8, vq, ?_⟩⟩
  rw [eq]
  refine br_c (fun z => ?_) (fun z => ⟨vt8, vq, nm_e ?_⟩)
  · rw [if_pos z] at hp
    exact hp
  · rw [if_neg z] at hp
    exact hp
end
