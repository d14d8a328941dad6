/-! ## p19: what every call keeps: bounds, staged and decided, one intent a key; what a reader saw; implicit commits -/
def pq_imp (b : Nat) (tt sg sc pl : Nat → Int32) (t : Nat) : Prop := t < b ∧ sg t = 1 ∧ ∀ i, i < pc_n sc t → pl (t * 4 + i) = tt t
def pq_mem (ca st sc ky pl : Nat → Int32) (L : Nat → List (Int32 × Int32)) (k : Nat) (r a : Int32) : Prop :=
  r ≤ ca k ∧ (∀ t i, pc_hit st sc ky pl (nI k) t i → r < pl (t * 4 + i)) ∧ (L k).foldl (pc_rd r) (-9) = a
def pq_J (b : Nat) (ca tt st al sg sc ky pl : Nat → Int32) (L : Nat → List (Int32 × Int32)) : Prop :=
  (∃ w, pc_Inv b 8 w ca tt st al sg sc ky pl L) ∧ (∀ i, ca i ≤ 1000000) ∧ (∀ t, tt t ≤ 1000000) ∧ (∀ t, t < b → 1 ≤ tt t) ∧
  (∀ q p, p ∈ L q → p.1 ≤ 1000000) ∧ (∀ t, t < b → st t = 1 → sg t = 0) ∧ (∀ t, t < b → st t = 2 → sg t = 1) ∧
  (∀ t, t < b → st t = 3 → pq_imp b tt sg sc pl t) ∧ (∀ t, t < b → st t = 4 → ¬ pq_imp b tt sg sc pl t) ∧
  (∀ k t i s j, pc_hit st sc ky pl k t i → pc_hit st sc ky pl k s j → t = s)
/-- from one state to the next nothing that a reader saw and no implicit commit is lost -/
def pq_go (b : Nat) (ca tt st sg sc ky pl : Nat → Int32) (L : Nat → List (Int32 × Int32)) (b' : Nat) (ca' tt' st' sg' sc' ky' pl' : Nat → Int32) (L' : Nat → List (Int32 × Int32)) : Prop :=
  (∀ k r a, k < 16 → pq_mem ca st sc ky pl L k r a → pq_mem ca' st' sc' ky' pl' L' k r a) ∧ (∀ t, pq_imp b tt sg sc pl t → pq_imp b' tt' sg' sc' pl' t)
theorem pq_succ {F : Int32} (h : F ≤ 1000000) : F < F + 1 := by
  rw [Int32.le_iff_toInt_le, show (1000000 : Int32).toInt = 1000000 from by decide] at h
  have h0 := Int32.le_toInt F
  rw [Int32.lt_iff_toInt_lt, Int32.toInt_add, show (1 : Int32).toInt = 1 from by decide]
  have e : (F.toInt + 1).bmod (2 ^ 32) = F.toInt + 1 := Int.bmod_eq_of_le (by omega) (by omega)
  rw [e]
  omega
theorem pq_fl_ge (l : List (Int32 × Int32)) : ∀ f : Int32, f ≤ l.foldl pc_g f := by
  induction l with
  | nil => exact fun f => Int32.le_refl f
  | cons p l ih =>
    intro f
    show f ≤ l.foldl pc_g (pc_g f p)
    refine Int32.le_trans ?_ (ih _)
    show f ≤ (if p.1 ≤ f then f else p.1)
    split
    · exact Int32.le_refl f
    · rename_i z
      exact Int32.le_of_lt (Int32.not_le.mp z)
theorem pq_fl_le {M : Int32} (l : List (Int32 × Int32)) : ∀ f : Int32, (∀ p, p ∈ l → p.1 ≤ M) → f ≤ M → l.foldl pc_g f ≤ M := by
  induction l with
  | nil => exact fun f _ h => h
  | cons p l ih =>
    intro f hl hf
    show l.foldl pc_g (pc_g f p) ≤ M
    refine ih _ (fun p' hp' => hl p' (List.mem_cons_of_mem _ hp')) ?_
    show (if p.1 ≤ f then f else p.1) ≤ M
    split
    · exact hf
    · exact hl p (List.mem_cons_self ..)
theorem pq_und_b {b : Nat} {st sg sc : Nat → Int32} (h8 : ∀ t, b ≤ t → sc t = 0 ∧ sg t = 0 ∧ st t = 0) {t : Nat} (h : pc_und st t) : t < b := by
  rcases Nat.lt_or_ge t b with z | z
  · exact z
  · rcases h with e | e <;> rw [(h8 t z).2.2] at e <;> exact absurd e (by decide)
/-! ### a raised cache -/
theorem pq_cache {b q : Nat} {ca tt st al sg sc ky pl : Nat → Int32} {L : Nat → List (Int32 × Int32)} {x : Int32} (h : pq_J b ca tt st al sg sc ky pl L) (hx : ca q ≤ x) (hm : x ≤ 1000000) :
    pq_J b (upd ca q x) tt st al sg sc ky pl L ∧ pq_go b ca tt st sg sc ky pl L b (upd ca q x) tt st sg sc ky pl L := by
  obtain ⟨⟨w, hI⟩, j1, j2, j3, j4, j5, j6, j7, j8, j9⟩ := h
  have hx0 : ¬ x < 0 := Int32.not_lt.mpr (Int32.le_trans (Int32.not_lt.mp (hI.2.1 q)) hx)
  refine ⟨⟨⟨w, pc_cache hI hx0⟩, pc_uA (fun _ y => y ≤ 1000000) hm (fun j _ => j1 j), j2, j3, j4, j5, j6, j7, j8, j9⟩, fun k r a _ hk => ⟨?_, hk.2.1, hk.2.2⟩, fun t ht => ht⟩
  by_cases e : k = q
  · subst e
    rw [pk_us]
    exact Int32.le_trans hk.1 hx
  · rw [pk_un e]
    exact hk.1
/-! ### begin -/
theorem pq_begin {b : Nat} {ca tt st al sg sc ky pl : Nat → Int32} {L : Nat → List (Int32 × Int32)} {ts : Int32} (h : pq_J b ca tt st al sg sc ky pl L) (hb : b < 8) (h1 : 1 ≤ ts) (h2 : ts ≤ 1000000) :
    pq_J (b + 1) ca (upd tt b ts) (upd st b 1) (upd al b 1) sg sc ky pl L ∧ pq_go b ca tt st sg sc ky pl L (b + 1) ca (upd tt b ts) (upd st b 1) sg sc ky pl L := by
  obtain ⟨⟨w, hI⟩, j1, j2, j3, j4, j5, j6, j7, j8, j9⟩ := h
  have hI' := hI
  obtain ⟨_, _, _, _, _, _, i7, i8, _, _, _, _, _⟩ := hI'
  have n0 : pc_n sc b = 0 := by
    show (sc b).toNatClampNeg = 0
    rw [(i8 b (Nat.le_refl b)).1]
    decide
  have hh : ∀ k t i, pc_hit (upd st b 1) sc ky pl k t i → pc_hit st sc ky pl k t i := by
    intro k t i z
    have e : t ≠ b := by
      intro e
      subst e
      have := z.2.1
      omega
    obtain ⟨z1, z2⟩ := z
    refine ⟨?_, z2⟩
    unfold pc_und at z1
    rw [pk_un e] at z1
    exact z1
  have hi : ∀ t, t < b → (pq_imp (b + 1) (upd tt b ts) sg sc pl t ↔ pq_imp b tt sg sc pl t) := by
    intro t ht
    unfold pq_imp
    rw [pk_un (show t ≠ b by omega)]
    exact ⟨fun z => ⟨ht, z.2⟩, fun z => ⟨by omega, z.2⟩⟩
  refine ⟨⟨⟨w, pc_begin hI hb (Int32.not_lt.mpr (Int32.le_trans (by decide) h1))⟩, j1, pc_uA (fun _ x => x ≤ 1000000) h2 (fun j _ => j2 j), pc_uA (fun t x => t < b + 1 → 1 ≤ x) (fun _ => h1) (fun j e z => j3 j (by omega)), j4, ?_, ?_, ?_, ?_, fun k t i s j z1 z2 => j9 k t i s j (hh k t i z1) (hh k s j z2)⟩, fun k r a _ hk => ⟨hk.1, fun t i z => hk.2.1 t i (hh _ t i z), hk.2.2⟩, fun t z => (hi t z.1).mpr z⟩
  · intro t ht e
    by_cases z : t = b
    · subst z
      exact (i8 t (Nat.le_refl t)).2.1
    · rw [pk_un z] at e
      exact j5 t (by omega) e
  · intro t ht e
    by_cases z : t = b
    · subst z
      rw [pk_us] at e
      exact absurd e (by decide)
    · rw [pk_un z] at e
      exact j6 t (by omega) e
  · intro t ht e
    by_cases z : t = b
    · subst z
      rw [pk_us] at e
      exact absurd e (by decide)
    · rw [pk_un z] at e
      exact (hi t (by omega)).mpr (j7 t (by omega) e)
  · intro t ht e
    by_cases z : t = b
    · subst z
      rw [pk_us] at e
      exact absurd e (by decide)
    · rw [pk_un z] at e
      exact fun y => j8 t (by omega) e ((hi t (by omega)).mp y)
/-! ### addWrite -/
theorem pq_add {b t n q : Nat} {ca tt st al sg sc ky pl : Nat → Int32} {L : Nat → List (Int32 × Int32)} (h : pq_J b ca tt st al sg sc ky pl L) (ht : t < b) (hs : st t = 1) (hn : sc t = nI n) (h4 : n < 4) (hq : q < 16)
    (hk : ∀ i, i < n → ¬ ky (t * 4 + i) = nI q) : pq_J b ca tt st al sg (upd sc t (nI (n + 1))) (upd ky (t * 4 + n) (nI q)) pl L ∧ pq_go b ca tt st sg sc ky pl L b ca tt st sg (upd sc t (nI (n + 1))) (upd ky (t * 4 + n) (nI q)) pl L := by
  obtain ⟨⟨w, hI⟩, j1, j2, j3, j4, j5, j6, j7, j8, j9⟩ := h
  have hI' := hI
  obtain ⟨_, _, _, _, _, _, i7, i8, _, _, i11, _, _⟩ := hI'
  have en : pc_n sc t = n := by
    show (sc t).toNatClampNeg = n
    rw [hn, nI_clamp (by omega)]
  have hh : ∀ k s i, pc_hit st (upd sc t (nI (n + 1))) (upd ky (t * 4 + n) (nI q)) pl k s i → pc_hit st sc ky pl k s i := by
    intro k s i z
    obtain ⟨z1, z2, z3, z4⟩ := z
    by_cases e : s = t
    · subst e
      rw [pc_n_s (by omega)] at z2
      by_cases ei : i = n
      · subst ei
        exact absurd (i11 s i (by omega) h4) z3
      · rw [pk_un (show s * 4 + i ≠ s * 4 + n by omega)] at z4
        exact ⟨z1, by omega, z3, z4⟩
    · rw [pc_n_u e] at z2
      have := (i7 s).1
      rw [pk_un (show s * 4 + i ≠ t * 4 + n by omega)] at z4
      exact ⟨z1, z2, z3, z4⟩
  have sg0 : ¬ sg t = 1 := by rw [j5 t ht hs]; decide
  have hi : ∀ s, pq_imp b tt sg (upd sc t (nI (n + 1))) pl s ↔ pq_imp b tt sg sc pl s := by
    intro s
    by_cases e : s = t
    · subst e
      exact ⟨fun z => absurd z.2.1 sg0, fun z => absurd z.2.1 sg0⟩
    · unfold pq_imp
      rw [pc_n_u e]
  exact ⟨⟨⟨w, pc_add hI ht hn h4 hq hk⟩, j1, j2, j3, j4, j5, j6, fun s z e => (hi s).mpr (j7 s z e), fun s z e y => j8 s z e ((hi s).mp y), fun k t i s j z1 z2 => j9 k t i s j (hh k t i z1) (hh k s j z2)⟩, fun k r a _ hk => ⟨hk.1, fun t i z => hk.2.1 t i (hh _ t i z), hk.2.2⟩, fun s z => (hi s).mpr z⟩
/-! ### stage -/
theorem pq_stage {b t : Nat} {ca tt st al sg sc ky pl : Nat → Int32} {L : Nat → List (Int32 × Int32)} (h : pq_J b ca tt st al sg sc ky pl L) (ht : t < b) (hs : st t = 1) :
    pq_J b ca tt (upd st t 2) al (upd sg t 1) sc ky pl L ∧ pq_go b ca tt st sg sc ky pl L b ca tt (upd st t 2) (upd sg t 1) sc ky pl L := by
  obtain ⟨⟨w, hI⟩, j1, j2, j3, j4, j5, j6, j7, j8, j9⟩ := h
  have hh : ∀ k s i, pc_hit (upd st t 2) sc ky pl k s i → pc_hit st sc ky pl k s i := by
    intro k s i z
    obtain ⟨z1, z2⟩ := z
    refine ⟨?_, z2⟩
    by_cases e : s = t
    · subst e
      exact Or.inl hs
    · unfold pc_und at z1
      rw [pk_un e] at z1
      exact z1
  have sg0 : ¬ sg t = 1 := by rw [j5 t ht hs]; decide
  have hi : ∀ s, s ≠ t → (pq_imp b tt (upd sg t 1) sc pl s ↔ pq_imp b tt sg sc pl s) := by
    intro s e
    unfold pq_imp
    rw [pk_un e]
  refine ⟨⟨⟨w, pc_stage hI ht hs⟩, j1, j2, j3, j4, ?_, ?_, ?_, ?_, fun k t i s j z1 z2 => j9 k t i s j (hh k t i z1) (hh k s j z2)⟩, fun k r a _ hk => ⟨hk.1, fun t i z => hk.2.1 t i (hh _ t i z), hk.2.2⟩, fun s z => (hi s (fun e => by subst e; exact sg0 z.2.1)).mpr z⟩
  · intro s hb e
    by_cases z : s = t
    · subst z
      rw [pk_us] at e
      exact absurd e (by decide)
    · rw [pk_un z] at e ⊢
      exact j5 s hb e
  · intro s hb e
    by_cases z : s = t
    · subst z
      exact pk_us
    · rw [pk_un z] at e ⊢
      exact j6 s hb e
  · intro s hb e
    by_cases z : s = t
    · subst z
      rw [pk_us] at e
      exact absurd e (by decide)
    · rw [pk_un z] at e
      exact (hi s z).mpr (j7 s hb e)
  · intro s hb e
    by_cases z : s = t
    · subst z
      rw [pk_us] at e
      exact absurd e (by decide)
    · rw [pk_un z] at e
      exact fun y => j8 s hb e ((hi s z).mp y)
/-! ### deliver -/
theorem pq_deliver {b t i n q : Nat} {ca tt st al sg sc ky pl : Nat → Int32} {L : Nat → List (Int32 × Int32)} {x : Int32} (h : pq_J b ca tt st al sg sc ky pl L) (ht : t < b) (hu : pc_und st t) (hn : sc t = nI n) (h4n : n ≤ 4) (hi : i < n)
    (h0 : pl (t * 4 + i) = 0) (hq : q < 16) (hk : ky (t * 4 + i) = nI q) (hno : ∀ s, s < b → ∀ j, ¬ pc_hit st sc ky pl (nI q) s j) (hx : (L q).foldl pc_g (ca q) < x) :
    pq_J b ca tt st al sg sc ky (upd pl (t * 4 + i) x) L ∧ pq_go b ca tt st sg sc ky pl L b ca tt st sg sc ky (upd pl (t * 4 + i) x) L := by
  obtain ⟨⟨w, hI⟩, j1, j2, j3, j4, j5, j6, j7, j8, j9⟩ := h
  have hI' := hI
  obtain ⟨_, _, _, _, _, _, i7, i8, _, _, _, _, _⟩ := hI'
  have en : pc_n sc t = n := by
    show (sc t).toNatClampNeg = n
    rw [hn, nI_clamp (by omega)]
  have hh : ∀ k s j, pc_hit st sc ky (upd pl (t * 4 + i) x) k s j → (s * 4 + j = t * 4 + i ∧ k = nI q ∧ s = t) ∨ (s * 4 + j ≠ t * 4 + i ∧ pc_hit st sc ky pl k s j) := by
    intro k s j z
    obtain ⟨z1, z2, z3, z4⟩ := z
    have := (i7 s).1
    by_cases e : s * 4 + j = t * 4 + i
    · refine Or.inl ⟨e, ?_, by omega⟩
      rw [e, hk] at z4
      exact z4.symm
    · rw [pk_un e] at z3
      exact Or.inr ⟨e, z1, z2, z3, z4⟩
  have him : ∀ s, s ≠ t → (pq_imp b tt sg sc (upd pl (t * 4 + i) x) s ↔ pq_imp b tt sg sc pl s) := by
    intro s e
    have := (i7 s).1
    exact ⟨fun z => ⟨z.1, z.2.1, fun j hj => by have y := z.2.2 j hj; rw [pk_un (show s * 4 + j ≠ t * 4 + i by omega)] at y; exact y⟩, fun z => ⟨z.1, z.2.1, fun j hj => by rw [pk_un (show s * 4 + j ≠ t * 4 + i by omega)]; exact z.2.2 j hj⟩⟩
  have hnt : ¬ pq_imp b tt sg sc pl t := by
    intro z
    have y := z.2.2 i (by omega)
    rw [h0] at y
    have y2 := j3 t ht
    rw [← y] at y2
    exact absurd y2 (by decide)
  have st3 : ∀ v : Int32, st t = v → v ≠ 3 ∧ v ≠ 4 := by
    intro v e
    rcases hu with z | z <;> rw [z] at e <;> subst e <;> decide
  refine ⟨⟨⟨w, pc_deliver hI hn h4n hi⟩, j1, j2, j3, j4, j5, j6, fun s hb e => (him s (fun z => by subst z; exact (st3 _ e).1 rfl)).mpr (j7 s hb e), fun s hb e y => j8 s hb e ((him s (fun z => by subst z; exact (st3 _ e).2 rfl)).mp y), ?_⟩, ?_, fun s z => (him s (fun e => by subst e; exact hnt z)).mpr z⟩
  · intro k s j s' j' z1 z2
    rcases hh k s j z1 with ⟨a1, a2, a3⟩ | ⟨a1, a2⟩
    · rcases hh k s' j' z2 with ⟨c1, c2, c3⟩ | ⟨c1, c2⟩
      · rw [a3, c3]
      · subst a2
        exact absurd c2 (hno s' (pq_und_b i8 c2.1) j')
    · rcases hh k s' j' z2 with ⟨c1, c2, c3⟩ | ⟨c1, c2⟩
      · subst c2
        exact absurd a2 (hno s (pq_und_b i8 a2.1) j)
      · exact j9 k s j s' j' a2 c2
  · intro k r a hk16 hm
    refine ⟨hm.1, fun s j z => ?_, hm.2.2⟩
    rcases hh (nI k) s j z with ⟨a1, a2, a3⟩ | ⟨a1, a2⟩
    · rw [a1, pk_us]
      have ek : k = q := (nI_eq (by omega) (by omega)).mp a2
      subst ek
      exact Int32.lt_of_le_of_lt (Int32.le_trans hm.1 (pq_fl_ge _ _)) hx
    · rw [pk_un a1]
      exact hm.2.1 s j a2
