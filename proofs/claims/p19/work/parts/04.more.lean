/-! ## deciding; raised caches -/
section
variable {fc fb fw : Int32} {ca vc vt vv tt st al sg sc ky vl pl wk wt wv : Nat → Int32}
theorem pc_d1 : ((1 : Int32) = 0) = False := eq_false (by decide)
theorem pc_dm1 : ((-1 : Int32) = 0) = False := eq_false (by decide)
theorem pc_dm2 : ((-2 : Int32) = 0) = False := eq_false (by decide)
theorem pc_dm3 : ((-3 : Int32) = 0) = False := eq_false (by decide)
theorem xh_decide {post : Int32 → St1 → Prop} {t n : Nat} {L : Nat → List (Int32 × Int32)} (ht : t < 8) (hn : sc t = nI n) (h4 : n ≤ 4) (hky : ∀ c, ∃ q, q < 16 ∧ ky c = nI q)
    (hd : ∀ i j, i < j → j < n → ¬ ky (t * 4 + i) = ky (t * 4 + j)) (hV : pc_XV vc vt vv L) (hL : ∀ q, (L q).length ≤ 7)
    (hA : (∃ i, i < n ∧ ¬ pl (t * 4 + i) = tt t) → post 4 (fc, fb, ca, vc, vt, vv, tt, upd st t 4, al, sg, sc, ky, vl, pl))
    (hC : (∀ i, i < n → pl (t * 4 + i) = tt t) → ∀ vc' vt' vv', pc_XV vc' vt' vv' (pc_cm ky vl (tt t) (t * 4) L n) → post 3 (fc, fb, ca, vc', vt', vv', tt, upd st t 3, al, sg, sc, ky, vl, pl)) : wpX_decideByPlacement post (fc, fb, ca, vc, vt, vv, tt, st, al, sg, sc, ky, vl, pl) (nI t) := by
  have et : (nI t).toNatClampNeg = t := nI_clamp (by omega)
  have vt8 : vp_in (nI t) 8 := vp_in_nI ht (by omega)
  unfold wpX_decideByPlacement
  refine xh_allAt ht hn h4 (fun hT => br_f (by decide) (xh_commit ht hn h4 hky hd hV hL (hC hT))) (fun hF => br_t (by trivial) ?_)
  simp only [wpX_abort, et]
  exact ⟨vt8, nm_e (hA hF)⟩
theorem pc_raI {b cp w q : Nat} {L : Nat → List (Int32 × Int32)} {x : Int32} (h : pc_Inv b cp w ca tt st al sg sc ky pl L) (hx : ¬ x < 0) : pc_Inv b cp w (pc_ra ca q x) tt st al sg sc ky pl L := by
  unfold pc_ra
  split
  · exact h
  · exact pc_cache h hx
theorem pc_pvI {b cp w c : Nat} {L : Nat → List (Int32 × Int32)} {x : Int32} (h : pc_Inv b cp w ca tt st al sg sc ky pl L) (hx : ¬ x < 0) (i : Nat) : pc_Inv b cp w (pc_pv ca ky pl x c i) tt st al sg sc ky pl L := by
  induction i with
  | zero => exact h
  | succ i ih =>
    show pc_Inv b cp w (if pl (c + i) = 0 then pc_ra (pc_pv ca ky pl x c i) (ky (c + i)).toNatClampNeg x else pc_pv ca ky pl x c i) tt st al sg sc ky pl L
    split
    · exact pc_raI ih hx
    · exact ih
end
