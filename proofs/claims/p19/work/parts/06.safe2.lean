/-! ### abort -/
theorem pq_hit_dec {t : Nat} {st sc ky pl : Nat → Int32} {x : Int32} (hx : ¬ x = 1 ∧ ¬ x = 2) {k : Int32} {s i : Nat} (z : pc_hit (upd st t x) sc ky pl k s i) : s ≠ t ∧ pc_hit st sc ky pl k s i := by
  obtain ⟨z1, z2⟩ := z
  unfold pc_und at z1
  by_cases e : s = t
  · subst e
    rw [pk_us] at z1
    rcases z1 with y | y
    · exact absurd y hx.1
    · exact absurd y hx.2
  · rw [pk_un e] at z1
    exact ⟨e, z1, z2⟩
theorem pq_abort {b t : Nat} {ca tt st al sg sc ky pl : Nat → Int32} {L : Nat → List (Int32 × Int32)} (h : pq_J b ca tt st al sg sc ky pl L) (ht : t < b) (hs : ¬ st t = 3) (hn : ¬ pq_imp b tt sg sc pl t) :
    pq_J b ca tt (upd st t 4) al sg sc ky pl L ∧ pq_go b ca tt st sg sc ky pl L b ca tt (upd st t 4) sg sc ky pl L := by
  obtain ⟨⟨w, hI⟩, j1, j2, j3, j4, j5, j6, j7, j8, j9⟩ := h
  have hh : ∀ k s i, pc_hit (upd st t 4) sc ky pl k s i → pc_hit st sc ky pl k s i := fun k s i z => (pq_hit_dec (by decide) z).2
  refine ⟨⟨⟨w, pc_abort hI ht hs⟩, j1, j2, j3, j4, ?_, ?_, ?_, ?_, fun k t i s j z1 z2 => j9 k t i s j (hh k t i z1) (hh k s j z2)⟩, fun k r a _ hk => ⟨hk.1, fun t i z => hk.2.1 t i (hh _ t i z), hk.2.2⟩, fun s z => z⟩
  · intro s hb e
    by_cases z : s = t
    · subst z
      rw [pk_us] at e
      exact absurd e (by decide)
    · rw [pk_un z] at e
      exact j5 s hb e
  · intro s hb e
    by_cases z : s = t
    · subst z
      rw [pk_us] at e
      exact absurd e (by decide)
    · rw [pk_un z] at e
      exact j6 s hb e
  · intro s hb e
    by_cases z : s = t
    · subst z
      rw [pk_us] at e
      exact absurd e (by decide)
    · rw [pk_un z] at e
      exact j7 s hb e
  · intro s hb e
    by_cases z : s = t
    · subst z
      exact hn
    · rw [pk_un z] at e
      exact j8 s hb e
/-! ### commit -/
theorem pq_cm_mem {key val : Nat → Int32} {ts M : Int32} {c : Nat} {L : Nat → List (Int32 × Int32)} (hL : ∀ q p, p ∈ L q → p.1 ≤ M) (hM : ts ≤ M) : ∀ i q p, p ∈ pc_cm key val ts c L i q → p.1 ≤ M := by
  intro i
  induction i with
  | zero => exact hL
  | succ i ih =>
    intro q p hp
    have hp' : p ∈ (if key (c + i) = nI q then pc_cm key val ts c L i q ++ [(ts, val (c + i))] else pc_cm key val ts c L i q) := hp
    split at hp'
    · rcases List.mem_append.mp hp' with z | z
      · exact ih q p z
      · rw [List.mem_singleton.mp z]
        exact hM
    · exact ih q p hp'
theorem pq_cm_rd {key val : Nat → Int32} {ts r a : Int32} {c q : Nat} {L : Nat → List (Int32 × Int32)} : ∀ i, (∀ j, j < i → key (c + j) = nI q → r < ts) → (pc_cm key val ts c L i q).foldl (pc_rd r) a = (L q).foldl (pc_rd r) a := by
  intro i
  induction i with
  | zero => intro _; rfl
  | succ i ih =>
    intro h
    show (if key (c + i) = nI q then pc_cm key val ts c L i q ++ [(ts, val (c + i))] else pc_cm key val ts c L i q).foldl (pc_rd r) a = _
    split
    · rename_i e
      rw [List.foldl_append, ih (fun j hj => h j (by omega))]
      show (if r < ts then (L q).foldl (pc_rd r) a else val (c + i)) = _
      rw [if_pos (h i (by omega) e)]
    · exact ih (fun j hj => h j (by omega))
theorem pq_commit {b t n : Nat} {ca tt st al sg sc ky vl pl : Nat → Int32} {L : Nat → List (Int32 × Int32)} (h : pq_J b ca tt st al sg sc ky pl L) (ht : t < b) (hs : st t = 2) (hn : sc t = nI n) (h4n : n ≤ 4) (ha : ∀ i, i < n → pl (t * 4 + i) = tt t) :
    pq_J b ca tt (upd st t 3) al sg sc ky pl (pc_cm ky vl (tt t) (t * 4) L n) ∧ pq_go b ca tt st sg sc ky pl L b ca tt (upd st t 3) sg sc ky pl (pc_cm ky vl (tt t) (t * 4) L n) := by
  obtain ⟨⟨w, hI⟩, j1, j2, j3, j4, j5, j6, j7, j8, j9⟩ := h
  have en : pc_n sc t = n := by
    show (sc t).toNatClampNeg = n
    rw [hn, nI_clamp (by omega)]
  have hh : ∀ k s i, pc_hit (upd st t 3) sc ky pl k s i → pc_hit st sc ky pl k s i := fun k s i z => (pq_hit_dec (by decide) z).2
  have h3 : ¬ st t = 3 := by rw [hs]; decide
  have him : pq_imp b tt sg sc pl t := ⟨ht, j6 t ht hs, fun i hi => ha i (by omega)⟩
  refine ⟨⟨⟨w + n, pc_commit hI ht h3 hn h4n⟩, j1, j2, j3, pq_cm_mem j4 (j2 t) n, ?_, ?_, ?_, ?_, fun k t i s j z1 z2 => j9 k t i s j (hh k t i z1) (hh k s j z2)⟩, fun k r a _ hk => ⟨hk.1, fun t i z => hk.2.1 t i (hh _ t i z), ?_⟩, fun s z => z⟩
  · intro s hb e
    by_cases z : s = t
    · subst z
      rw [pk_us] at e
      exact absurd e (by decide)
    · rw [pk_un z] at e
      exact j5 s hb e
  · intro s hb e
    by_cases z : s = t
    · subst z
      rw [pk_us] at e
      exact absurd e (by decide)
    · rw [pk_un z] at e
      exact j6 s hb e
  · intro s hb e
    by_cases z : s = t
    · subst z
      exact him
    · rw [pk_un z] at e
      exact j7 s hb e
  · intro s hb e
    by_cases z : s = t
    · subst z
      rw [pk_us] at e
      exact absurd e (by decide)
    · rw [pk_un z] at e
      exact j8 s hb e
  · rw [pq_cm_rd n (fun j hj e => ?_)]
    · exact hk.2.2
    · have hp : ¬ pl (t * 4 + j) = 0 := by
        rw [ha j hj]
        intro y
        have y2 := j3 t ht
        rw [y] at y2
        exact absurd y2 (by decide)
      have y := hk.2.1 t j ⟨Or.inr hs, by omega, hp, e⟩
      rw [ha j hj] at y
      exact y
/-! ### crash -/
theorem pq_crash {b t : Nat} {ca tt st al sg sc ky pl : Nat → Int32} {L : Nat → List (Int32 × Int32)} (h : pq_J b ca tt st al sg sc ky pl L) :
    pq_J b ca tt st (upd al t 0) sg sc ky pl L := by
  obtain ⟨⟨w, hI⟩, j1, j2, j3, j4, j5, j6, j7, j8, j9⟩ := h
  exact ⟨⟨w, pc_crash hI⟩, j1, j2, j3, j4, j5, j6, j7, j8, j9⟩
theorem pq_go_refl (b : Nat) (ca tt st sg sc ky pl : Nat → Int32) (L : Nat → List (Int32 × Int32)) : pq_go b ca tt st sg sc ky pl L b ca tt st sg sc ky pl L := ⟨fun _ _ _ _ h => h, fun _ h => h⟩
theorem pq_go_trans {b b' b'' : Nat} {ca tt st sg sc ky pl ca' tt' st' sg' sc' ky' pl' ca'' tt'' st'' sg'' sc'' ky'' pl'' : Nat → Int32} {L L' L'' : Nat → List (Int32 × Int32)}
    (h : pq_go b ca tt st sg sc ky pl L b' ca' tt' st' sg' sc' ky' pl' L') (h' : pq_go b' ca' tt' st' sg' sc' ky' pl' L' b'' ca'' tt'' st'' sg'' sc'' ky'' pl'' L'') :
    pq_go b ca tt st sg sc ky pl L b'' ca'' tt'' st'' sg'' sc'' ky'' pl'' L'' := ⟨fun k r a hk z => h'.1 k r a hk (h.1 k r a hk z), fun t z => h'.2 t (h.2 t z)⟩
