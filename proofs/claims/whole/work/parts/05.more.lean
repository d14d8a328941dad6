/-! ## both sides' further walks, and the relation -/
section
variable {fc fb fw : Int32} {ca vc vt vv tt st al sg sc ky vl pl wk wt wv : Nat → Int32}
theorem pc_d1 : ((1 : Int32) = 0) = False := eq_false (by decide)
theorem pc_dm1 : ((-1 : Int32) = 0) = False := eq_false (by decide)
theorem pc_dm2 : ((-2 : Int32) = 0) = False := eq_false (by decide)
theorem pc_dm3 : ((-3 : Int32) = 0) = False := eq_false (by decide)
theorem pc_nb1 : vp_nar .boolean 1 = 1 := by decide +kernel
theorem pc_nb0 : vp_nar .boolean 0 = 0 := by decide +kernel
theorem pc_div4 {s j : Nat} (hs : s < 8) (hj : j < 4) : nI (s * 4 + j) / 4 = nI s := by
  have h : nI (s * 4 + j) / nI 4 = nI ((s * 4 + j) / 4) := pk_div (by omega) (by omega) (by omega)
  rw [show (s * 4 + j) / 4 = s by omega] at h
  exact h
theorem xh_decide {post : Int32 → SX → Prop} {t n : Nat} {L : Nat → List (Int32 × Int32)} (ht : t < 8) (hn : sc t = nI n) (h4 : n ≤ 4) (hky : ∀ c, ∃ q, q < 16 ∧ ky c = nI q)
    (hd : ∀ i j, i < j → j < n → ¬ ky (t * 4 + i) = ky (t * 4 + j)) (hV : pc_XV vc vt vv L) (hL : ∀ q, (L q).length ≤ 7)
    (hA : (∃ i, i < n ∧ ¬ pl (t * 4 + i) = tt t) → post 4 (fc, fb, ca, vc, vt, vv, tt, upd st t 4, al, sg, sc, ky, vl, pl))
    (hC : (∀ i, i < n → pl (t * 4 + i) = tt t) → ∀ vc' vt' vv', pc_XV vc' vt' vv' (pc_cm ky vl (tt t) (t * 4) L n) → post 3 (fc, fb, ca, vc', vt', vv', tt, upd st t 3, al, sg, sc, ky, vl, pl)) : wpX_decideByPlacement post (fc, fb, ca, vc, vt, vv, tt, st, al, sg, sc, ky, vl, pl) (nI t) := by
  have et : (nI t).toNatClampNeg = t := nI_clamp (by omega)
  have vt8 : vp_in (nI t) 8 := vp_in_nI ht (by omega)
  unfold wpX_decideByPlacement
  refine xh_allAt ht hn h4 (fun hT => br_f (by decide) (xh_commit ht hn h4 hky hd hV hL (hC hT))) (fun hF => br_t (by trivial) ?_)
  simp only [wpX_abort, et]
  exact ⟨vt8, nm_e (hA hF)⟩
theorem yh_fin {post : Int32 → SY → Prop} {t n w : Nat} {L : Nat → List (Int32 × Int32)} (ht : t < 8) (hn : sc t = nI n) (h4 : n ≤ 4) (hw28 : w ≤ 28) (hV : pc_YV wk wt wv w L)
    (hA : (∃ i, i < n ∧ ¬ pl (t * 4 + i) = tt t) → post 4 (fc, fb, nI w, tt, upd st t 4, al, sg, sc, ky, vl, pl, ca, wk, wt, wv))
    (hC : (∀ i, i < n → pl (t * 4 + i) = tt t) → ∀ wk' wt' wv', pc_YV wk' wt' wv' (w + n) (pc_cm ky vl (tt t) (t * 4) L n) → post 3 (fc, fb, nI (w + n), tt, upd st t 3, al, sg, sc, ky, vl, pl, ca, wk', wt', wv')) : wY_finalize_74 post (nI t) fc fb (nI w) tt st al sg sc ky vl pl ca wk wt wv := by
  unfold wY_finalize_74
  refine yh_allAt ht hn h4 (fun hT => yh_commit ht hn h4 hw28 hV (fun wk' wt' wv' h => br_f (by decide) (hC hT wk' wt' wv' h))) (fun hF => yh_abort ht (br_t (by trivial) (hA hF)))
theorem yh_rec {post : Int32 → SY → Prop} {t n w : Nat} {L : Nat → List (Int32 × Int32)} (ht : t < 8) (hn : sc t = nI n) (h4 : n ≤ 4) (hw28 : w ≤ 28) (hV : pc_YV wk wt wv w L)
    (hA : (∃ i, i < n ∧ ¬ pl (t * 4 + i) = tt t) → post 4 (fc, fb, nI w, tt, upd st t 4, al, sg, sc, ky, vl, pl, ca, wk, wt, wv))
    (hC : (∀ i, i < n → pl (t * 4 + i) = tt t) → ∀ wk' wt' wv', pc_YV wk' wt' wv' (w + n) (pc_cm ky vl (tt t) (t * 4) L n) → post 3 (fc, fb, nI (w + n), tt, upd st t 3, al, sg, sc, ky, vl, pl, ca, wk', wt', wv')) : wY_recover_81 post (nI t) fc fb (nI w) tt st al sg sc ky vl pl ca wk wt wv := by
  unfold wY_recover_81
  refine yh_allAt ht hn h4 (fun hT => yh_commit ht hn h4 hw28 hV (fun wk' wt' wv' h => br_f (by decide) (hC hT wk' wt' wv' h))) (fun hF => yh_abort ht (br_t (by trivial) (hA hF)))
theorem yh_add {post : Int32 → SY → Prop} {t n : Nat} {k v : Int32} (ht : t < 8) (hn : sc t = nI n) (h4 : n ≤ 4)
    (hT : (∃ i, i < n ∧ ky (t * 4 + i) = k) → post (-6) (fc, fb, fw, tt, st, al, sg, sc, ky, vl, pl, ca, wk, wt, wv)) (hF : (∀ i, i < n → ¬ ky (t * 4 + i) = k) → wY_addWrite_103 post (nI t) k v fc fb fw tt st al sg sc ky vl pl ca wk wt wv) : ∃ f, wY_addWrite_62 post (nI t) k v fc fb fw tt st al sg sc ky vl pl ca wk wt wv f 0 := by
  have et : (nI t).toNatClampNeg = t := nI_clamp (by omega)
  have vt8 : vp_in (nI t) 8 := vp_in_nI ht (by omega)
  refine pk_loop (σ := Unit) (fun f i _ => wY_addWrite_62 post (nI t) k v fc fb fw tt st al sg sc ky vl pl ca wk wt wv f (nI i)) (fun i _ => ∀ j, j < i → ¬ ky (t * 4 + j) = k) n 0 () (Nat.zero_le n) (fun j hj => absurd hj (by omega)) ?_ ?_
  · intro f _ I
    simp only [wY_addWrite_62, et, hn]
    exact ⟨vt8, br_t (nI_le (Nat.le_refl n) (by omega)) (hF I)⟩
  · intro f i _ hi I hw
    have ec : (nI (t * 4 + i)).toNatClampNeg = t * 4 + i := nI_clamp (by omega)
    simp only [wY_addWrite_62, et, hn, pc_cell, ec]
    refine ⟨vt8, br_f (nI_ge hi (by omega)) (br_f (pc_lt4 hi h4) ⟨vp_in_nI (by omega) (by omega), br_c (fun z => hT ⟨i, hi, z⟩) (fun z => nm_r (nI_1 i) (hw () ?_))⟩)⟩
    exact lt_s I z
theorem yh_del {post : Int32 → SY → Prop} {t n : Nat} (ht : t < 8) (hn : sc t = nI n) (h4 : n ≤ 4)
    (hF : (∃ i, i < n ∧ pl (t * 4 + i) = 0) → post (-8) (fc, fb, fw, tt, st, al, sg, sc, ky, vl, pl, ca, wk, wt, wv)) (hT : (∀ i, i < n → ¬ pl (t * 4 + i) = 0) → wY_finalize_74 post (nI t) fc fb fw tt st al sg sc ky vl pl ca wk wt wv) : ∃ f, wY_finalize_37 post (nI t) fc fb fw tt st al sg sc ky vl pl ca wk wt wv f 0 := by
  have et : (nI t).toNatClampNeg = t := nI_clamp (by omega)
  have vt8 : vp_in (nI t) 8 := vp_in_nI ht (by omega)
  refine pk_loop (σ := Unit) (fun f i _ => wY_finalize_37 post (nI t) fc fb fw tt st al sg sc ky vl pl ca wk wt wv f (nI i)) (fun i _ => ∀ j, j < i → ¬ pl (t * 4 + j) = 0) n 0 () (Nat.zero_le n) (fun j hj => absurd hj (by omega)) ?_ ?_
  · intro f _ I
    simp only [wY_finalize_37, et, hn]
    exact ⟨vt8, br_t (nI_le (Nat.le_refl n) (by omega)) (hT I)⟩
  · intro f i _ hi I hw
    have ec : (nI (t * 4 + i)).toNatClampNeg = t * 4 + i := nI_clamp (by omega)
    simp only [wY_finalize_37, et, hn, pc_cell, ec]
    refine ⟨vt8, br_f (nI_ge hi (by omega)) (br_f (pc_lt4 hi h4) ⟨vp_in_nI (by omega) (by omega), br_c (fun z => hF ⟨i, hi, z⟩) (fun z => nm_r (nI_1 i) (hw () ?_))⟩)⟩
    exact lt_s I z
theorem yh_prevAll {post : Int32 → SY → Prop} {t n : Nat} (ht : t < 8) (hn : sc t = nI n) (h4 : n ≤ 4) (hky : ∀ c, ∃ q, q < 16 ∧ ky c = nI q)
    (hp : wY_recover_81 post (nI t) fc fb fw tt st al sg sc ky vl pl (pc_pv ca ky pl (tt t) (t * 4) n) wk wt wv) : ∃ f, wY_recover_41 post (nI t) f 0 fc fb fw tt st al sg sc ky vl pl ca wk wt wv := by
  have et : (nI t).toNatClampNeg = t := nI_clamp (by omega)
  have vt8 : vp_in (nI t) 8 := vp_in_nI ht (by omega)
  refine pk_loop (σ := Nat → Int32) (fun f i s => wY_recover_41 post (nI t) f (nI i) fc fb fw tt st al sg sc ky vl pl s wk wt wv) (fun i s => s = pc_pv ca ky pl (tt t) (t * 4) i) n 0 ca (Nat.zero_le n) rfl ?_ ?_
  · intro f s I
    simp only [wY_recover_41, et, hn]
    exact ⟨vt8, br_t (nI_le (Nat.le_refl n) (by omega)) (by rw [I]; exact hp)⟩
  · intro f i s hi I hw
    have ec : (nI (t * 4 + i)).toNatClampNeg = t * 4 + i := nI_clamp (by omega)
    simp only [wY_recover_41, et, hn, pc_cell, ec]
    refine ⟨vt8, br_f (nI_ge hi (by omega)) (br_f (pc_lt4 hi h4) ⟨vp_in_nI (by omega) (by omega), br_c (fun z => yh_prevent ht (by omega) hky (nm_r (nI_1 i) (hw _ ?_))) (fun z => nm_r (nI_1 i) (hw _ ?_))⟩)⟩
    · show pc_ra s _ _ = (if pl (t * 4 + i) = 0 then pc_ra (pc_pv ca ky pl (tt t) (t * 4) i) (ky (t * 4 + i)).toNatClampNeg (tt t) else pc_pv ca ky pl (tt t) (t * 4) i)
      rw [if_pos z, I]
    · show s = (if pl (t * 4 + i) = 0 then pc_ra (pc_pv ca ky pl (tt t) (t * 4) i) (ky (t * 4 + i)).toNatClampNeg (tt t) else pc_pv ca ky pl (tt t) (t * 4) i)
      rw [if_neg z, I]
theorem pc_raI {b cp w q : Nat} {L : Nat → List (Int32 × Int32)} {x : Int32} (h : pc_Inv b cp w ca tt st al sg sc ky pl L) (hx : ¬ x < 0) : pc_Inv b cp w (pc_ra ca q x) tt st al sg sc ky pl L := by
  unfold pc_ra
  split
  · exact h
  · exact pc_cache h hx
theorem pc_pvI {b cp w c : Nat} {L : Nat → List (Int32 × Int32)} {x : Int32} (h : pc_Inv b cp w ca tt st al sg sc ky pl L) (hx : ¬ x < 0) (i : Nat) : pc_Inv b cp w (pc_pv ca ky pl x c i) tt st al sg sc ky pl L := by
  induction i with
  | zero => exact h
  | succ i ih =>
    show pc_Inv b cp w (if pl (c + i) = 0 then pc_ra (pc_pv ca ky pl x c i) (ky (c + i)).toNatClampNeg x else pc_pv ca ky pl x c i) tt st al sg sc ky pl L
    split
    · exact pc_raI ih hx
    · exact ih
end
/-- the two sides: the same counts, arrays and caches; the same versions of each key, kept per key on one side and in one list on the other -/
def i_Rel (_ : Nat) (u : SX) (v : SY) : Prop := ∃ (b cp w : Nat) (ca vc vt vv tt st al sg sc ky vl pl wk wt wv : Nat → Int32) (L : Nat → List (Int32 × Int32)),
  u = (nI cp, nI b, ca, vc, vt, vv, tt, st, al, sg, sc, ky, vl, pl) ∧ v = (nI cp, nI b, nI w, tt, st, al, sg, sc, ky, vl, pl, ca, wk, wt, wv) ∧ pc_Inv b cp w ca tt st al sg sc ky pl L ∧ pc_XV vc vt vv L ∧ pc_YV wk wt wv w L
theorem i_up {k : Nat} {u : SX} {v : SY} (h : i_Rel k u v) : i_Rel (k + 4) u v := h
theorem i_vc0 (k0 : Int32) : wpX_init (fun u => wpY_init (fun v => i_Rel 1 u v) k0) k0 := by
  have base : ∀ cp, cp ≤ 8 → i_Rel 1 (nI cp, 0, (fun _ => 0), (fun _ => 0), (fun _ => 0), (fun _ => 0), (fun _ => 0), (fun _ => 0), (fun _ => 0), (fun _ => 0), (fun _ => 0), (fun _ => 0), (fun _ => 0), (fun _ => 0)) (nI cp, 0, 0, (fun _ => 0), (fun _ => 0), (fun _ => 0), (fun _ => 0), (fun _ => 0), (fun _ => 0), (fun _ => 0), (fun _ => 0), (fun _ => 0), (fun _ => 0), (fun _ => 0), (fun _ => 0)) := by
    intro cp h
    exact ⟨0, cp, 0, _, _, _, _, _, _, _, _, _, _, _, _, _, _, _, _, rfl, rfl, pc_Inv0 h, fun q _ => ⟨0, by omega, nI_0.symm, rfl⟩, fun q _ => rfl⟩
  by_cases h1 : 1 ≤ k0
  · by_cases h8 : k0 ≤ 8
    · obtain ⟨cp, hc, rfl⟩ := nI_of2 (x := k0) (M := 8) (n := 8) (by decide) (Int32.not_lt.mpr (Int32.le_trans (by decide) h1)) h8
      exact br_t h1 (br_t h8 (br_t h1 (br_t h8 (base cp hc))))
    · exact br_t h1 (br_f h8 (br_t h1 (br_f h8 (base 8 (by omega)))))
  · exact br_f h1 (br_f h1 (br_t (by decide) (base 1 (by omega))))
