/-! ## the law's memory by its 64 codes; masks by bits; the checks of a step -/
def pq_sel (m0 m1 m2 m3 : Int64) (w : Nat) : Int64 := if w = 0 then m0 else if w = 1 then m1 else if w = 2 then m2 else m3
def pq_code (m0 m1 m2 m3 : Int64) (id : Nat) : Nat := pq_nb (pq_sel m0 m1 m2 m3 (id / 16)) (id % 16)
def pq_dec (c : Nat) : Int32 := if c = 1 then -9 else nI c - 2
def pq_M (m0 m1 m2 m3 : Int64) (k : Nat) (r a : Int32) : Prop := ∃ p, k < 8 ∧ p < 8 ∧ r = nI (p + 1) ∧ ¬ pq_code m0 m1 m2 m3 (k * 8 + p) = 0 ∧ a = pq_dec (pq_code m0 m1 m2 m3 (k * 8 + p))
def pq_P (x : Int32) (t : Nat) : Prop := t < 32 ∧ bt x t = true
theorem pq_code_put {m0 m1 m2 m3 n0 n1 n2 n3 : Int64} {id c : Nat} (hi : id < 64) (hc : c < 16)
    (hs : ∀ w, w < 4 → pq_sel n0 n1 n2 n3 w = if w = id / 16 then pq_put (pq_sel m0 m1 m2 m3 w) (id % 16) c else pq_sel m0 m1 m2 m3 w) :
    ∀ e, e < 64 → pq_code n0 n1 n2 n3 e = if e = id then c else pq_code m0 m1 m2 m3 e := by
  intro e he
  unfold pq_code
  rw [hs (e / 16) (by omega)]
  by_cases w : e / 16 = id / 16
  · rw [if_pos w, pq_nb_put _ (Nat.mod_lt _ (by decide)) hc _ (Nat.mod_lt _ (by decide))]
    by_cases y : e % 16 = id % 16
    · rw [if_pos y, if_pos (show e = id by omega)]
    · rw [if_neg y, if_neg (fun z => y (by rw [z]))]
  · rw [if_neg w, if_neg (fun z => w (by rw [z]))]
theorem pq_and7 (x : Int32) : ∃ k, k < 8 ∧ x &&& 7 = nI k := pk_andE x 3 (by decide)
theorem pq_nI15 {id : Nat} (h : id < 64) : (nI id &&& 15) * 4 = nI (4 * (id % 16)) := by
  rw [show nI id &&& 15 = nI (id % 2 ^ 4) from pk_andN (by omega) 4 (by decide), pc_m4, Nat.mul_comm]
theorem pq_sh4 {id : Nat} (h : id < 64) : nI id >>> ((4 : Int32) &&& 31) = nI (id / 16) := pk_shrN (by omega) _ 4 (by decide)
theorem pq_sh3 {id : Nat} (h : id < 64) : nI id >>> ((3 : Int32) &&& 31) = nI (id / 8) := pk_shrN (by omega) _ 3 (by decide)
theorem pl_nib {post : Int32 → Prop} {u : St2} {m0 m1 m2 m3 : Int64} {id : Nat} (h : id < 64) (hp : post (nI (pq_code m0 m1 m2 m3 id))) : wpL_nib post u m0 m1 m2 m3 (nI id) := by
  have key : ∀ m : Int64, pq_sel m0 m1 m2 m3 (id / 16) = m → wL_nib_38 post (nI id) m := by
    intro m e
    unfold wL_nib_38
    rw [pq_nI15 h, pq_nib m (Nat.mod_lt _ (by decide)), ← e]
    exact hp
  unfold wpL_nib
  refine nm_r (pq_sh4 h) ?_
  refine pk_eq (id / 16) 0 (fun z => key _ (by unfold pq_sel; rw [if_pos z])) (fun z0 => ?_)
  refine pk_eq (id / 16) 1 (fun z => key _ (by unfold pq_sel; rw [if_neg z0, if_pos z])) (fun z1 => ?_)
  exact pk_eq (id / 16) 2 (fun z => key _ (by unfold pq_sel; rw [if_neg z0, if_neg z1, if_pos z])) (fun z2 => key _ (by unfold pq_sel; rw [if_neg z0, if_neg z1, if_neg z2]))
theorem pl_put {post : Int64 → Prop} {u : St2} {m : Int64} {id c : Nat} (h : id < 64) (hc : c < 16) (hp : post (pq_put m (id % 16) c)) : wpL_put post u m (nI id) (nI c) := by
  unfold wpL_put
  refine nm_r (pq_nI15 h) ?_
  rw [nI_l (show c < 2 ^ 31 by omega)]
  exact hp
theorem pl_dec {post : Int32 → Prop} {u : St2} {c : Nat} (hc : c < 16) (hp : post (pq_dec c)) : wpL_decode post u (nI c) := by
  unfold wpL_decode
  refine pk_eq c 1 (fun z => ?_) (fun z => ?_)
  · rw [pq_dec, if_pos z] at hp
    exact hp
  · rw [pq_dec, if_neg z] at hp
    exact hp
theorem pl_cell {post : Int32 → Prop} {LL : Nat} {xs : Nat → Int32} {u : St2} {j : Nat} (hL : LL ≤ 260) (hj : j < 2 ^ 31) (h : ∀ v, post v) : wpL_cell post LL xs u (nI j) :=
  br_c (fun _ => h _) (fun z => ⟨vp_in_nI (Nat.lt_of_not_le (fun y => z (nI_le y hj))) (by omega), h _⟩)
theorem pq_b1 : ∀ i, i < 32 → bt 1 i = decide (i = 0) := by decide +kernel
theorem pq_bit0 (x : Int32) : x &&& 1 = 0 ↔ bt x 0 = false := by
  constructor
  · intro h
    have e : bt (x &&& 1) 0 = false := by rw [h, b_0]
    rw [b_and, pq_b1 0 (by omega)] at e
    simpa using e
  · intro h
    apply b_ext
    intro i hi
    rw [b_and, pq_b1 i hi, b_0]
    by_cases z : i = 0
    · subst z
      rw [h]
      rfl
    · rw [decide_eq_false z, Bool.and_false]
theorem pq_prev (x : Int32) {t : Nat} (ht : t < 8) : (x >>> (nI t &&& 31)) &&& 1 = 0 ↔ bt x t = false := by
  rw [pq_bit0, b_sshr t (by omega) x (show 0 < 32 by omega), if_pos (by omega), Nat.add_zero]
theorem pq_set {x : Int32} {t j : Nat} (ht : t < 8) (hj : j < 32) (h : bt (x ||| ((1 : Int32) <<< (nI t &&& 31))) j = true) : bt x j = true ∨ j = t := by
  rw [b_or, b_shl t (by omega) 1 hj] at h
  by_cases e : j = t
  · exact Or.inr e
  · left
    by_cases l : t ≤ j
    · rw [pq_b1 (j - t) (by omega), decide_eq_false (show ¬ j - t = 0 by omega), Bool.and_false, Bool.or_false] at h
      exact h
    · rw [decide_eq_false l, Bool.false_and, Bool.or_false] at h
      exact h
theorem pq_s7 {s : Int32} (h : s = 0 ∨ s = 1 ∨ s = 2 ∨ s = 3 ∨ s = 4) : s &&& 7 = s := by
  rcases h with h | h | h | h | h <;> subst h <;> decide
section
variable {fc fb fw : Int32} {ca vc vt vv tt st al sg sc ky vl pl : Nat → Int32}
theorem pl_597 {post : Int32 → Prop} {LL : Nat} {xs : Nat → Int32} {J38 : Int32 → Int32 → Int32 → Int64 → Int64 → Int64 → Int64 → Int32 → Int32 → Int32 → (Nat → Int32) → (Nat → Int32) → (Nat → Int32) → (Nat → Int32) → (Nat → Int32) → (Nat → Int32) → (Nat → Int32) → (Nat → Int32) → (Nat → Int32) → (Nat → Int32) → (Nat → Int32) → (Nat → Int32) → Prop} {x2 x3 x4 x5 : Int32} {x6 x8 x10 x12 : Int64} {x14 : Int32} {kc ks : Nat} {J544 : Int32 → Int32 → Int32 → Prop} {x15 x16 x17 x18 x19 x20 z0 : Int32} (h3 : x18 = 3 → ¬ x19 = 0) (h4 : x18 = 4 → x19 = 0) (hz : ¬ z0 = 0 → ¬ x19 = 0)
    (hK : wL_law_667 post LL xs J38 J544 x2 x3 x4 x5 x6 x8 x10 x12 x14 x15 x16 x17 x18 x19 kc ks fc fb ca vc vt vv tt st al sg sc ky vl pl) : wL_law_597 post LL xs J38 J544 x2 x3 x4 x5 x6 x8 x10 x12 x14 x15 x16 x17 x18 x19 x20 z0 kc ks fc fb ca vc vt vv tt st al sg sc ky vl pl := by
  have k659 : ¬ x19 = 0 → wL_law_659 post LL xs J38 J544 x2 x3 x4 x5 x6 x8 x10 x12 x14 x15 x16 x17 x18 x19 kc ks fc fb ca vc vt vv tt st al sg sc ky vl pl := fun z => br_f (fun e => z (h4 e)) hK
  have k649 : wL_law_649 post LL xs J38 J544 x2 x3 x4 x5 x6 x8 x10 x12 x14 x15 x16 x17 x18 x19 z0 kc ks fc fb ca vc vt vv tt st al sg sc ky vl pl := br_c (fun a => br_c (fun b => hK) (fun b => k659 b)) (fun a => k659 (hz a))
  have k637 : wL_law_637 post LL xs J38 J544 x2 x3 x4 x5 x6 x8 x10 x12 x14 x15 x16 x17 x18 x19 z0 kc ks fc fb ca vc vt vv tt st al sg sc ky vl pl := br_c (fun a => k649) (fun a => br_f (hz a) k649)
  have k618 : wL_law_618 post LL xs J38 J544 x2 x3 x4 x5 x6 x8 x10 x12 x14 x15 x16 x17 x18 x19 x20 z0 kc ks fc fb ca vc vt vv tt st al sg sc ky vl pl := br_c (fun a => br_c (fun _ => k637) (fun _ => br_t (h4 a) k637)) (fun a => k637)
  exact br_c (fun a => br_c (fun _ => k618) (fun _ => br_f (h3 a) k618)) (fun _ => k618)
theorem pl_inner {post : Int32 → Prop} {LL : Nat} {xs : Nat → Int32} {J38 : Int32 → Int32 → Int32 → Int64 → Int64 → Int64 → Int64 → Int32 → Int32 → Int32 → (Nat → Int32) → (Nat → Int32) → (Nat → Int32) → (Nat → Int32) → (Nat → Int32) → (Nat → Int32) → (Nat → Int32) → (Nat → Int32) → (Nat → Int32) → (Nat → Int32) → (Nat → Int32) → (Nat → Int32) → Prop} {x2 x3 x4 x5 : Int32} {x6 x8 x10 x12 : Int64} {x14 : Int32} {kc ks : Nat} {b : Nat} {L : Nat → List (Int32 × Int32)} (hJ : pq_J b ca tt st al sg sc ky pl L) (hP : ∀ t, pq_P x5 t → pq_imp b tt sg sc pl t)
    (hk : ∀ x15 x16, (∀ t, pq_P x16 t → pq_imp b tt sg sc pl t) → J38 x3 x15 x16 x6 x8 x10 x12 (x14 + 1) (nI 8) (nI b) ca vc vt vv tt st al sg sc ky vl pl) : ∃ f, wL_law_544 post LL xs J38 x2 x3 x4 x5 x6 x8 x10 x12 x14 kc ks (nI 8) (nI b) ca vc vt vv tt st al sg sc ky vl pl f 0 0 0 := by
  refine pk_loop (σ := Int32 × Int32) (fun f i s => wL_law_544 post LL xs J38 x2 x3 x4 x5 x6 x8 x10 x12 x14 kc ks (nI 8) (nI b) ca vc vt vv tt st al sg sc ky vl pl f s.1 s.2 (nI i)) (fun _ s => ∀ t, pq_P s.2 t → pq_imp b tt sg sc pl t) 8 0 (0, 0) (by omega) ?_ ?_ ?_
  · intro t h
    have e : bt 0 t = true := h.2
    rw [b_0] at e
    exact absurd e (by decide)
  · intro f s I
    simp only [wL_law_544]
    exact br_t (nI_le (a := 8) (b := 8) (by omega) (by omega)) (nm_e (hk s.1 s.2 I))
  · intro f i s hi I hw
    obtain ⟨v, hv, v3, v4, wv⟩ := po_status (vc := vc) (vt := vt) (vv := vv) (vl := vl) hJ hi
    obtain ⟨z, hz, wz⟩ := po_imp (vc := vc) (vt := vt) (vv := vv) (vl := vl) hJ hi
    have z01 : z = 0 → ¬ pq_imp b tt sg sc pl i := by
      intro e
      rcases hz with ⟨_, y⟩ | ⟨y, _⟩
      · exact y
      · rw [e] at y
        exact absurd y (by decide)
    have z10 : ¬ z = 0 → pq_imp b tt sg sc pl i := by
      intro e
      rcases hz with ⟨y, _⟩ | ⟨_, y⟩
      · exact absurd y e
      · exact y
    have c3 : v = 3 → ¬ z = 0 := fun e y => z01 y (v3 e)
    have c4 : v = 4 → z = 0 := fun e => Classical.byContradiction (fun y => v4 e (z10 y))
    have k667 : ∀ x18, wL_law_667 post LL xs J38 (wL_law_544 post LL xs J38 x2 x3 x4 x5 x6 x8 x10 x12 x14 kc ks (nI 8) (nI b) ca vc vt vv tt st al sg sc ky vl pl f) x2 x3 x4 x5 x6 x8 x10 x12 x14 s.1 s.2 (nI i) x18 z kc ks (nI 8) (nI b) ca vc vt vv tt st al sg sc ky vl pl := by
      intro x18
      unfold wL_law_667
      refine nm_e (br_c (fun y => nm_r (nI_1 i) (hw (_, s.2) I)) (fun y => nm_e (nm_r (nI_1 i) (hw (_, _) ?_))))
      intro t ht
      rcases pq_set hi ht.1 ht.2 with g | g
      · exact I t ⟨ht.1, g⟩
      · rw [g]
        exact z10 y
    simp only [wL_law_544]
    refine br_f (nI_ge (b := 8) hi (by decide)) (wv _ (nm_r (pq_s7 hv) (wz _ (nm_e (br_c (fun a => ?_) (fun a => ?_))))))
    · exact pl_597 c3 c4 (fun y => absurd rfl y) (k667 v)
    · refine pl_597 c3 c4 (fun _ y => z01 y (hP i ⟨by omega, ?_⟩)) (k667 v)
      rw [pq_prev x5 hi] at a
      exact eq_true_of_ne_false a
end
