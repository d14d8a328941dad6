/-! ## the law -/
def pl_W (post : Int32 → Prop) (LL : Nat) (xs : Nat → Int32) (x2 : Int32) (kc ks f i : Nat) (s : Int32 × Int32 × Int32 × Int64 × Int64 × Int64 × Int64 × St1) : Prop := match s with
  | (x3, x4, x5, x6, x8, x10, x12, (fc, fb, ca, vc, vt, vv, tt, st, al, sg, sc, ky, vl, pl)) => wL_law_38 post LL xs x2 kc ks f x3 x4 x5 x6 x8 x10 x12 (nI i) fc fb ca vc vt vv tt st al sg sc ky vl pl
def pl_I (s : Int32 × Int32 × Int32 × Int64 × Int64 × Int64 × Int64 × St1) : Prop := match s with
  | (_, _, x5, x6, x8, x10, x12, u) => pq_K (pq_M x6 x8 x10 x12) (pq_P x5) u
theorem pq_64 (n : Nat) : nI n + 64 = nI (n + 64) := nI_add n 64
theorem pq_4i (i : Nat) : 4 * nI i = nI (4 * i) := by rw [pc_4, pk_mul]
theorem pl_loop {post : Int32 → Prop} {LL n : Nat} {xs : Nat → Int32} {kc ks : Nat} (hL : LL ≤ 260) (hn : n ≤ 65) (h1 : post 1) (s : Int32 × Int32 × Int32 × Int64 × Int64 × Int64 × Int64 × St1) (hI : pl_I s) : ∃ f, pl_W post LL xs (nI n) kc ks f 0 s := by
  refine pk_loop (σ := Int32 × Int32 × Int32 × Int64 × Int64 × Int64 × Int64 × St1) (fun f i s => pl_W post LL xs (nI n) kc ks f i s) (fun _ s => pl_I s) (n + 64) 0 s (by omega) hI ?_ ?_
  · intro f s I
    obtain ⟨x3, x4, x5, x6, x8, x10, x12, fc, fb, ca, vc, vt, vv, tt, st, al, sg, sc, ky, vl, pl⟩ := s
    show wL_law_38 post LL xs (nI n) kc ks (f + 1) x3 x4 x5 x6 x8 x10 x12 (nI (n + 64)) fc fb ca vc vt vv tt st al sg sc ky vl pl
    simp only [wL_law_38, pq_64]
    exact br_t (nI_le (Nat.le_refl _) (by omega)) h1
  · intro f i s hi I hw
    obtain ⟨x3, x4, x5, x6, x8, x10, x12, fc, fb, ca, vc, vt, vv, tt, st, al, sg, sc, ky, vl, pl⟩ := s
    have K : pq_K (pq_M x6 x8 x10 x12) (pq_P x5) (fc, fb, ca, vc, vt, vv, tt, st, al, sg, sc, ky, vl, pl) := I
    have hk : ∀ x3 x15 x16 m0 m1 m2 m3 u', pq_K (pq_M m0 m1 m2 m3) (pq_P x16) u' → pl_nx (wL_law_38 post LL xs (nI n) kc ks f) x3 x15 x16 m0 m1 m2 m3 (nI i + 1) u' := by
      intro x3 x15 x16 m0 m1 m2 m3 u' K'
      rw [nI_1]
      have a := hw (x3, x15, x16, m0, m1, m2, m3, u') K'
      obtain ⟨fc, fb, ca, vc, vt, vv, tt, st, al, sg, sc, ky, vl, pl⟩ := u'
      exact a
    show wL_law_38 post LL xs (nI n) kc ks (f + 1) x3 x4 x5 x6 x8 x10 x12 (nI i) fc fb ca vc vt vv tt st al sg sc ky vl pl
    unfold wL_law_38
    rw [pq_64]
    refine br_f (nI_ge hi (by omega)) (pk_le n i (fun hni => nm_r (pk_sub hni) ?_) (fun hni => nm_r (pq_4i i) ?_))
    · have hid : i - n < 64 := by omega
      have hd : (i - n) / 8 * 8 + (i - n) % 8 = i - n := by omega
      have hc16 : pq_code x6 x8 x10 x12 (i - n) < 16 := pq_nb_lt _ _
      refine pl_nib hid (pk_eq _ 0 (fun hz => pl_after K (fun x15 x16 h => hk _ _ _ _ _ _ _ _ h)) (fun hz => ?_))
      have e7 : (nI (i - n) &&& 7) + 1 = nI ((i - n) % 8 + 1) := by
        rw [show nI (i - n) &&& 7 = nI ((i - n) % 2 ^ 3) from pk_andN (by omega) 3 (by decide)]
        exact nI_1 _
      rw [pq_sh3 hid, e7]
      refine pl_read (by omega) (Nat.mod_lt _ (by decide)) K (fun r u' K' hr => ?_)
      rw [hd] at hr
      have K0 := pq_mono (M := pq_M x6 x8 x10 x12) (fun k r a z => Or.inl z) K'
      obtain ⟨fc, fb, ca, vc, vt, vv, tt, st, al, sg, sc, ky, vl, pl⟩ := u'
      exact pl_dec hc16 (br_t (hr hz) (pl_after K0 (fun x15 x16 h => hk _ _ _ _ _ _ _ _ h)))
    · refine pl_cell hL (by omega) (fun v0 => nm_e ?_)
      have e1 : nI (4 * i) + 1 = nI (4 * i + 1) := nI_add (4 * i) 1
      have e2 : nI (4 * i) + 2 = nI (4 * i + 2) := nI_add (4 * i) 2
      have e3 : nI (4 * i) + 3 = nI (4 * i + 3) := nI_add (4 * i) 3
      rw [e1, e2, e3]
      refine pl_cell hL (by omega) (fun v1 => pl_cell hL (by omega) (fun v2 => pl_cell hL (by omega) (fun v3 => ?_)))
      exact br_c (fun _ => pl_115 K hk) (fun z => ⟨fun e => z (by rw [e]; exact Int32.le_refl _), pl_115 K hk⟩)
theorem pl_K0 : pq_K (pq_M 0 0 0 0) (pq_P 0) (8, 0, (fun _ => 0), (fun _ => 0), (fun _ => 0), (fun _ => 0), (fun _ => 0), (fun _ => 0), (fun _ => 0), (fun _ => 0), (fun _ => 0), (fun _ => 0), (fun _ => 0), (fun _ => 0)) := by
  refine ⟨0, _, _, _, _, _, _, _, _, _, _, _, _, fun _ => [], rfl, ⟨⟨0, pc_Inv0 (by omega)⟩, fun i => (by decide : (0 : Int32) ≤ 1000000), fun i => (by decide : (0 : Int32) ≤ 1000000), fun t z => absurd z (Nat.not_lt_zero t), fun q p z => absurd z (List.not_mem_nil), fun t z => absurd z (Nat.not_lt_zero t), fun t z => absurd z (Nat.not_lt_zero t), fun t z => absurd z (Nat.not_lt_zero t), fun t z => absurd z (Nat.not_lt_zero t), fun k t i s j z => ?_⟩, fun q _ => ⟨0, by omega, nI_0.symm, rfl⟩, fun k r a _ z => ?_, fun t z => ?_⟩
  · rcases z.1 with y | y
    · exact absurd (show (0 : Int32) = 1 from y) (by decide)
    · exact absurd (show (0 : Int32) = 2 from y) (by decide)
  · obtain ⟨p, z1, z2, z3, z4, z5⟩ := z
    refine absurd ?_ z4
    have e : ∀ w, pq_sel 0 0 0 0 w = 0 := by
      intro w
      unfold pq_sel
      split
      · rfl
      · split
        · rfl
        · split <;> rfl
    unfold pq_code
    rw [e]
    exact pq_nb_0 _
  · have e : bt 0 t = true := z.2
    rw [b_0] at e
    exact absurd e (by decide)
theorem i_vc (xs : Nat → Int32) (L : Nat) (hL : L ≤ 260) : wpL_law (fun r => r = 1) L xs := by
  have hd : nI L / 4 = nI (L / 4) := pk_div (d := 4) (by omega) (by omega) (by omega)
  unfold wpL_law
  refine ⟨12, 424, by omega, by omega, ?_⟩
  unfold wpX_init
  refine ⟨by omega, by omega, by omega, by omega, by omega, by omega, by omega, by omega, by omega, by omega, by omega, by omega, by omega, by omega, by omega, by omega, by omega, by omega, by omega, by omega, by omega, by omega, by omega, by omega, br_t (by decide) (br_t (by decide) ⟨by decide, nm_r hd ?_⟩)⟩
  exact pl_loop (post := fun r => r = 1) (xs := xs) (n := L / 4) hL (by omega) rfl (0, 0, 0, 0, 0, 0, 0, _) pl_K0
