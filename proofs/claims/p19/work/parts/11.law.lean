/-! ## the law's loop -/
def pl_nx (J38 : Int32 → Int32 → Int32 → Int64 → Int64 → Int64 → Int64 → Int32 → Int32 → Int32 → (Nat → Int32) → (Nat → Int32) → (Nat → Int32) → (Nat → Int32) → (Nat → Int32) → (Nat → Int32) → (Nat → Int32) → (Nat → Int32) → (Nat → Int32) → (Nat → Int32) → (Nat → Int32) → (Nat → Int32) → Prop) (x3 x15 x16 : Int32) (x6 x8 x10 x12 : Int64) (x14 : Int32) (u : St1) : Prop := match u with
  | (fc, fb, ca, vc, vt, vv, tt, st, al, sg, sc, ky, vl, pl) => J38 x3 x15 x16 x6 x8 x10 x12 x14 fc fb ca vc vt vv tt st al sg sc ky vl pl
def pl_in (post : Int32 → Prop) (LL : Nat) (xs : Nat → Int32) (J38 : Int32 → Int32 → Int32 → Int64 → Int64 → Int64 → Int64 → Int32 → Int32 → Int32 → (Nat → Int32) → (Nat → Int32) → (Nat → Int32) → (Nat → Int32) → (Nat → Int32) → (Nat → Int32) → (Nat → Int32) → (Nat → Int32) → (Nat → Int32) → (Nat → Int32) → (Nat → Int32) → (Nat → Int32) → Prop) (x2 x3 x4 x5 : Int32) (x6 x8 x10 x12 : Int64) (x14 : Int32) (kc ks : Nat) (u : St1) : Prop := match u with
  | (fc, fb, ca, vc, vt, vv, tt, st, al, sg, sc, ky, vl, pl) => ∃ f, wL_law_544 post LL xs J38 x2 x3 x4 x5 x6 x8 x10 x12 x14 kc ks fc fb ca vc vt vv tt st al sg sc ky vl pl f 0 0 0
theorem pq_mono {M M' : Nat → Int32 → Int32 → Prop} {P : Nat → Prop} {u : St1} (h : ∀ k r a, M k r a → M' k r a) (K : pq_K M' P u) : pq_K M P u := by
  obtain ⟨b, ca, vc, vt, vv, tt, st, al, sg, sc, ky, vl, pl, L, rfl, hJ, hX, hM, hP⟩ := K
  exact ⟨_, _, _, _, _, _, _, _, _, _, _, _, _, _, rfl, hJ, hX, fun k r a hk z => hM k r a hk (h k r a z), hP⟩
theorem pl_after {post : Int32 → Prop} {LL : Nat} {xs : Nat → Int32} {J38 : Int32 → Int32 → Int32 → Int64 → Int64 → Int64 → Int64 → Int32 → Int32 → Int32 → (Nat → Int32) → (Nat → Int32) → (Nat → Int32) → (Nat → Int32) → (Nat → Int32) → (Nat → Int32) → (Nat → Int32) → (Nat → Int32) → (Nat → Int32) → (Nat → Int32) → (Nat → Int32) → (Nat → Int32) → Prop} {x2 x3 x4 x5 : Int32} {x6 x8 x10 x12 : Int64} {x14 : Int32} {kc ks : Nat} {u : St1} (K : pq_K (pq_M x6 x8 x10 x12) (pq_P x5) u)
    (hk : ∀ x15 x16, pq_K (pq_M x6 x8 x10 x12) (pq_P x16) u → pl_nx J38 x3 x15 x16 x6 x8 x10 x12 (x14 + 1) u) : pl_in post LL xs J38 x2 x3 x4 x5 x6 x8 x10 x12 x14 kc ks u := by
  obtain ⟨b, ca, vc, vt, vv, tt, st, al, sg, sc, ky, vl, pl, L, rfl, hJ, hX, hM, hP⟩ := K
  exact pl_inner hJ hP (fun x15 x16 h => hk x15 x16 ⟨_, _, _, _, _, _, _, _, _, _, _, _, _, _, rfl, hJ, hX, hM, h⟩)
section
variable {fc fb fw : Int32} {ca vc vt vv tt st al sg sc ky vl pl : Nat → Int32}
theorem pl_403 {post : Int32 → Prop} {LL : Nat} {xs : Nat → Int32} {J38 : Int32 → Int32 → Int32 → Int64 → Int64 → Int64 → Int64 → Int32 → Int32 → Int32 → (Nat → Int32) → (Nat → Int32) → (Nat → Int32) → (Nat → Int32) → (Nat → Int32) → (Nat → Int32) → (Nat → Int32) → (Nat → Int32) → (Nat → Int32) → (Nat → Int32) → (Nat → Int32) → (Nat → Int32) → Prop} {x2 x3 x4 x5 : Int32} {x6 x8 x10 x12 : Int64} {x14 : Int32} {kc ks : Nat} {k p c : Nat} {r : Int32} (hk8 : k < 8) (hp8 : p < 8) (hc : c < 16) (hd : pq_dec c = r) (hr : ¬ r = -10)
    (K : pq_K (fun k' s a => pq_M x6 x8 x10 x12 k' s a ∨ (k' = k ∧ s = nI (p + 1) ∧ a = r ∧ ¬ r = -10)) (pq_P x5) (fc, fb, ca, vc, vt, vv, tt, st, al, sg, sc, ky, vl, pl))
    (hk : ∀ x15 x16 m0 m1 m2 m3, pq_K (pq_M m0 m1 m2 m3) (pq_P x16) (fc, fb, ca, vc, vt, vv, tt, st, al, sg, sc, ky, vl, pl) → pl_nx J38 x3 x15 x16 m0 m1 m2 m3 (x14 + 1) (fc, fb, ca, vc, vt, vv, tt, st, al, sg, sc, ky, vl, pl)) :
    wL_law_403 post LL xs J38 x2 x3 x4 x5 x6 x8 x10 x12 x14 (nI (k * 8 + p)) (nI c) kc ks fc fb ca vc vt vv tt st al sg sc ky vl pl := by
  have hid : k * 8 + p < 64 := by omega
  have fin : ∀ m0 m1 m2 m3, (∀ w, w < 4 → pq_sel m0 m1 m2 m3 w = if w = (k * 8 + p) / 16 then pq_put (pq_sel x6 x8 x10 x12 w) ((k * 8 + p) % 16) c else pq_sel x6 x8 x10 x12 w) → pq_K (pq_M m0 m1 m2 m3) (pq_P x5) (fc, fb, ca, vc, vt, vv, tt, st, al, sg, sc, ky, vl, pl) := by
    intro m0 m1 m2 m3 hs
    have hcd := pq_code_put hid hc hs
    refine pq_mono (fun k' s a z => ?_) K
    obtain ⟨p', z1, z2, z3, z4, z5⟩ := z
    rw [hcd (k' * 8 + p') (by omega)] at z4 z5
    by_cases e : k' * 8 + p' = k * 8 + p
    · rw [if_pos e] at z5
      have ek : k' = k := by omega
      have ep : p' = p := by omega
      subst ek ep
      exact Or.inr ⟨rfl, z3, z5.trans hd, hr⟩
    · rw [if_neg e] at z4 z5
      exact Or.inl ⟨p', z1, z2, z3, z4, z5⟩
  unfold wL_law_403
  refine nm_r (pq_sh4 hid) ?_
  have w4 : ∀ w, w < 4 → w = 0 ∨ w = 1 ∨ w = 2 ∨ w = 3 := by intro w hw; omega
  refine pk_eq ((k * 8 + p) / 16) 0 (fun z => pl_put hid hc (pl_after (fin _ _ _ _ ?_) (fun x15 x16 h => hk x15 x16 _ _ _ _ h))) (fun z0 => ?_)
  · intro w hw
    rw [z]
    rcases w4 w hw with e | e | e | e <;> subst e <;> rfl
  refine pk_eq ((k * 8 + p) / 16) 1 (fun z => pl_put hid hc (pl_after (fin _ _ _ _ ?_) (fun x15 x16 h => hk x15 x16 _ _ _ _ h))) (fun z1 => ?_)
  · intro w hw
    rw [z]
    rcases w4 w hw with e | e | e | e <;> subst e <;> rfl
  refine pk_eq ((k * 8 + p) / 16) 2 (fun z => pl_put hid hc (pl_after (fin _ _ _ _ ?_) (fun x15 x16 h => hk x15 x16 _ _ _ _ h))) (fun z2 => pl_put hid hc (pl_after (fin _ _ _ _ ?_) (fun x15 x16 h => hk x15 x16 _ _ _ _ h)))
  · intro w hw
    rw [z]
    rcases w4 w hw with e | e | e | e <;> subst e <;> rfl
  · intro w hw
    have z3 : (k * 8 + p) / 16 = 3 := by omega
    rw [z3]
    rcases w4 w hw with e | e | e | e <;> subst e <;> rfl
theorem pl_read {x5 : Int32} {x6 x8 x10 x12 : Int64} {k p : Nat} (hk8 : k < 8) (hp8 : p < 8) (K : pq_K (pq_M x6 x8 x10 x12) (pq_P x5) (fc, fb, ca, vc, vt, vv, tt, st, al, sg, sc, ky, vl, pl)) {Q : Int32 → St1 → Prop}
    (hQ : ∀ r u', pq_K (fun k' s a => pq_M x6 x8 x10 x12 k' s a ∨ (k' = k ∧ s = nI (p + 1) ∧ a = r ∧ ¬ r = -10)) (pq_P x5) u' → (¬ pq_code x6 x8 x10 x12 (k * 8 + p) = 0 → r = pq_dec (pq_code x6 x8 x10 x12 (k * 8 + p))) → Q r u') : wpX_read Q (fc, fb, ca, vc, vt, vv, tt, st, al, sg, sc, ky, vl, pl) (nI k) (nI (p + 1)) :=
  po_read K (by omega) (nI_nlt (b := 1) (by omega) (by omega)) (nI_nlt (a := 1000000) (by omega) (by decide)) (fun r u' K' hr => hQ r u' K' (fun hc => hr _ ⟨p, hk8, hp8, rfl, hc, rfl⟩))
theorem pl_115 {post : Int32 → Prop} {LL : Nat} {xs : Nat → Int32} {J38 : Int32 → Int32 → Int32 → Int64 → Int64 → Int64 → Int64 → Int32 → Int32 → Int32 → (Nat → Int32) → (Nat → Int32) → (Nat → Int32) → (Nat → Int32) → (Nat → Int32) → (Nat → Int32) → (Nat → Int32) → (Nat → Int32) → (Nat → Int32) → (Nat → Int32) → (Nat → Int32) → (Nat → Int32) → Prop} {x2 x3 x4 x5 : Int32} {x6 x8 x10 x12 : Int64} {x14 : Int32} {kc ks : Nat} {x16 x17 x18 x19 z0 : Int32} (K : pq_K (pq_M x6 x8 x10 x12) (pq_P x5) (fc, fb, ca, vc, vt, vv, tt, st, al, sg, sc, ky, vl, pl))
    (hk : ∀ x3 x15 x16 m0 m1 m2 m3 u', pq_K (pq_M m0 m1 m2 m3) (pq_P x16) u' → pl_nx J38 x3 x15 x16 m0 m1 m2 m3 (x14 + 1) u') : wL_law_115 post LL xs J38 x2 x3 x4 x5 x6 x8 x10 x12 x14 x16 x17 x18 x19 z0 kc ks fc fb ca vc vt vv tt st al sg sc ky vl pl := by
  unfold wL_law_115
  refine nm_e (br_c (fun _ => br_c (fun _ => br_c (fun _ => po_stage K _ (fun r u' K' => by obtain ⟨fc, fb, ca, vc, vt, vv, tt, st, al, sg, sc, ky, vl, pl⟩ := u'; exact pl_after K' (fun x15 x16 h => hk _ _ _ _ _ _ _ _ h))) (fun _ => br_c (fun _ => br_c (fun _ => po_finalize K _ (fun r u' K' => by obtain ⟨fc, fb, ca, vc, vt, vv, tt, st, al, sg, sc, ky, vl, pl⟩ := u'; exact pl_after K' (fun x15 x16 h => hk _ _ _ _ _ _ _ _ h))) (fun _ => br_c (fun _ => po_rollback K _ (fun r u' K' => by obtain ⟨fc, fb, ca, vc, vt, vv, tt, st, al, sg, sc, ky, vl, pl⟩ := u'; exact pl_after K' (fun x15 x16 h => hk _ _ _ _ _ _ _ _ h))) (fun _ => br_c (fun _ => po_crash K _ (fun r u' K' => by obtain ⟨fc, fb, ca, vc, vt, vv, tt, st, al, sg, sc, ky, vl, pl⟩ := u'; exact pl_after K' (fun x15 x16 h => hk _ _ _ _ _ _ _ _ h))) (fun _ => br_c (fun _ => po_probe K _ _ (fun r u' K' => by obtain ⟨fc, fb, ca, vc, vt, vv, tt, st, al, sg, sc, ky, vl, pl⟩ := u'; exact pl_after K' (fun x15 x16 h => hk _ _ _ _ _ _ _ _ h))) (fun _ => br_c (fun _ => po_recover K _ (fun r u' K' => by obtain ⟨fc, fb, ca, vc, vt, vv, tt, st, al, sg, sc, ky, vl, pl⟩ := u'; exact pl_after K' (fun x15 x16 h => hk _ _ _ _ _ _ _ _ h))) (fun _ => ?_)))))) (fun _ => po_deliver K _ _ (fun r u' K' => by obtain ⟨fc, fb, ca, vc, vt, vv, tt, st, al, sg, sc, ky, vl, pl⟩ := u'; exact pl_after K' (fun x15 x16 h => hk _ _ _ _ _ _ _ _ h))))) (fun _ => po_addWrite K _ _ _ (fun r u' K' => by obtain ⟨fc, fb, ca, vc, vt, vv, tt, st, al, sg, sc, ky, vl, pl⟩ := u'; exact pl_after K' (fun x15 x16 h => hk _ _ _ _ _ _ _ _ h)))) (fun _ => po_begin K _ (fun r u' K' => by obtain ⟨fc, fb, ca, vc, vt, vv, tt, st, al, sg, sc, ky, vl, pl⟩ := u'; exact br_c (fun _ => pl_after K' (fun x15 x16 h => hk _ _ _ _ _ _ _ _ h)) (fun _ => nm_e (pl_after K' (fun x15 x16 h => hk _ _ _ _ _ _ _ _ h))))))
  obtain ⟨k, hk8, ek⟩ := pq_and7 x17
  obtain ⟨p, hp8, ep⟩ := pq_and7 x18
  have e1 : 1 + (x18 &&& 7) = nI (p + 1) := by
    rw [ep, Nat.add_comm]
    exact nI_add 1 p
  have e2 : nI k * 8 + nI (p + 1) - 1 = nI (k * 8 + p) := by
    rw [pc_m8, nI_add]
    exact nI_pred (k * 8 + p)
  refine nm_r ek (nm_r e1 (nm_r e2 (pl_read hk8 hp8 K (fun r u' K' hr => ?_))))
  obtain ⟨fc, fb, ca, vc, vt, vv, tt, st, al, sg, sc, ky, vl, pl⟩ := u'
  have hid : k * 8 + p < 64 := by omega
  have K0 := pq_mono (M := pq_M x6 x8 x10 x12) (fun k r a z => Or.inl z) K'
  have hc16 : pq_code x6 x8 x10 x12 (k * 8 + p) < 16 := pq_nb_lt _ _
  refine pl_nib hid (pk_eq _ 0 (fun hz => ?_) (fun hz => ?_))
  · have c9 : r = -9 → wL_law_388 post LL xs J38 x2 x3 x4 x5 x6 x8 x10 x12 x14 (nI (k * 8 + p)) r kc ks fc fb ca vc vt vv tt st al sg sc ky vl pl := by
      intro e
      exact br_t e (pl_403 (c := 1) hk8 hp8 (by omega) (by rw [e]; rfl) (by rw [e]; decide) K' (fun x15 x16 _ _ _ _ h => hk _ _ _ _ _ _ _ _ h))
    refine br_c c9 (fun n9 => br_c (fun _ => pl_after K0 (fun x15 x16 h => hk _ _ _ _ _ _ _ _ h)) (fun n0 => br_c (fun _ => pl_after K0 (fun x15 x16 h => hk _ _ _ _ _ _ _ _ h)) (fun n3 => ?_)))
    obtain ⟨v, hv, ev⟩ := nI_of2 (x := r) (M := 3) (n := 3) (by decide) n0 (Int32.not_lt.mp n3)
    subst ev
    have e2 : nI v + 2 = nI (v + 2) := nI_add v 2
    refine br_f n9 ?_
    rw [e2]
    refine pl_403 (c := v + 2) hk8 hp8 (by omega) ?_ ?_ K' (fun x15 x16 _ _ _ _ h => hk _ _ _ _ _ _ _ _ h)
    · unfold pq_dec
      rw [if_neg (by omega)]
      exact pk_sub (a := v + 2) (b := 2) (by omega)
    · intro e
      have := nI_pos (n := v) (by omega)
      rw [e] at this
      exact this (by decide)
  · exact pl_dec hc16 (br_t (hr hz) (pl_after K0 (fun x15 x16 h => hk _ _ _ _ _ _ _ _ h)))
end
