/-! ## the invariant of the shared state, and that each call keeps it -/
theorem pc_uA {f : Nat → Int32} {k : Nat} {x : Int32} (P : Nat → Int32 → Prop) (hx : P k x) (hf : ∀ j, j ≠ k → P j (f j)) : ∀ j, P j (upd f k x j) := by
  intro j
  by_cases e : j = k
  · subst e
    rw [pk_us]
    exact hx
  · rw [pk_un e]
    exact hf j e
theorem pc_same {f : Nat → Int32} {k : Nat} {x : Int32} (h : f k = x) : upd f k x = f := by
  funext j
  by_cases e : j = k
  · subst e
    rw [pk_us, h]
  · rw [pk_un e]
def pc_n (sc : Nat → Int32) (t : Nat) : Nat := (sc t).toNatClampNeg
theorem pc_n_s {sc : Nat → Int32} {t m : Nat} (h : m < 2 ^ 31) : pc_n (upd sc t (nI m)) t = m := by
  show (upd sc t (nI m) t).toNatClampNeg = m
  rw [pk_us, nI_clamp h]
theorem pc_n_u {sc : Nat → Int32} {t s : Nat} {x : Int32} (h : s ≠ t) : pc_n (upd sc t x) s = pc_n sc s := by
  show (upd sc t x s).toNatClampNeg = (sc s).toNatClampNeg
  rw [pk_un h]
/-- b begun of cp; w versions in all; ca cache, tt timestamps, st statuses, al alive, sg staged, sc slot counts, ky keys, pl placed; L the versions of each key -/
def pc_Inv (b cp w : Nat) (ca tt st al sg sc ky pl : Nat → Int32) (L : Nat → List (Int32 × Int32)) : Prop :=
  (b ≤ cp ∧ cp ≤ 8) ∧ (∀ i, ¬ ca i < 0) ∧ (∀ t, ¬ tt t < 0) ∧
  (∀ t, t < b → (st t = 1 ∨ st t = 2 ∨ st t = 3 ∨ st t = 4)) ∧ (∀ t, al t = 0 ∨ al t = 1) ∧ (∀ t, sg t = 0 ∨ sg t = 1) ∧
  (∀ t, pc_n sc t ≤ 4 ∧ sc t = nI (pc_n sc t)) ∧ (∀ t, b ≤ t → sc t = 0 ∧ sg t = 0 ∧ st t = 0) ∧
  (∀ c, ∃ q, q < 16 ∧ ky c = nI q) ∧ (∀ t i j, i < j → j < pc_n sc t → ¬ ky (t * 4 + i) = ky (t * 4 + j)) ∧
  (∀ t i, pc_n sc t ≤ i → i < 4 → pl (t * 4 + i) = 0) ∧
  (∀ q, (L q).length ≤ pc_cn st 8) ∧ w ≤ 4 * pc_cn st 8
theorem pc_Inv0 {cp : Nat} (h : cp ≤ 8) : pc_Inv 0 cp 0 (fun _ => 0) (fun _ => 0) (fun _ => 0) (fun _ => 0) (fun _ => 0) (fun _ => 0) (fun _ => 0) (fun _ => 0) (fun _ => []) := by
  refine ⟨⟨Nat.zero_le _, h⟩, fun i => (by decide : ¬ (0 : Int32) < 0), fun i => (by decide : ¬ (0 : Int32) < 0), fun t z => absurd z (Nat.not_lt_zero t), fun t => Or.inl rfl, fun t => Or.inl rfl, fun t => ⟨(by decide : (0 : Int32).toNatClampNeg ≤ 4), (by decide +kernel : (0 : Int32) = nI (0 : Int32).toNatClampNeg)⟩, fun t _ => ⟨rfl, rfl, rfl⟩, fun c => ⟨0, by omega, nI_0.symm⟩, fun t i j h1 h2 => ?_, fun t i _ _ => rfl, fun q => Nat.zero_le _, Nat.zero_le _⟩
  have h3 : j < (0 : Int32).toNatClampNeg := h2
  rw [show (0 : Int32).toNatClampNeg = 0 from by decide] at h3
  omega
theorem pc_begin {b cp w : Nat} {ca tt st al sg sc ky pl : Nat → Int32} {L : Nat → List (Int32 × Int32)} {ts : Int32} (h : pc_Inv b cp w ca tt st al sg sc ky pl L) (hb : b < cp) (hts : ¬ ts < 0) :
    pc_Inv (b + 1) cp w ca (upd tt b ts) (upd st b 1) (upd al b 1) sg sc ky pl L := by
  obtain ⟨h1, h2, h3, h4, h5, h6, h7, h8, h9, h10, h11, h12, h13⟩ := h
  have e3 : ¬ st b = 3 := by rw [(h8 b (Nat.le_refl b)).2.2]; decide
  refine ⟨⟨by omega, h1.2⟩, h2, pc_uA (fun _ x => ¬ x < 0) hts (fun j _ => h3 j), pc_uA (fun t x => t < b + 1 → (x = 1 ∨ x = 2 ∨ x = 3 ∨ x = 4)) (fun _ => Or.inl rfl) (fun j e z => h4 j (by omega)), pc_uA (fun _ x => x = 0 ∨ x = 1) (Or.inr rfl) (fun j _ => h5 j), h6, h7, fun t z => ?_, h9, h10, h11, ?_, ?_⟩
  · rw [pk_un (show t ≠ b by omega)]
    exact h8 t (by omega)
  · rw [pc_cn_keep e3 (by decide)]
    exact h12
  · rw [pc_cn_keep e3 (by decide)]
    exact h13
theorem pc_add {b cp w t n q : Nat} {ca tt st al sg sc ky pl : Nat → Int32} {L : Nat → List (Int32 × Int32)} (h : pc_Inv b cp w ca tt st al sg sc ky pl L) (ht : t < b) (hn : sc t = nI n) (h4 : n < 4) (hq : q < 16)
    (hk : ∀ i, i < n → ¬ ky (t * 4 + i) = nI q) : pc_Inv b cp w ca tt st al sg (upd sc t (nI (n + 1))) (upd ky (t * 4 + n) (nI q)) pl L := by
  obtain ⟨h1, h2, h3, h4', h5, h6, h7, h8, h9, h10, h11, h12, h13⟩ := h
  have en : pc_n sc t = n := by
    show (sc t).toNatClampNeg = n
    rw [hn, nI_clamp (by omega)]
  refine ⟨h1, h2, h3, h4', h5, h6, fun s => ?_, fun s z => ?_, pc_uA (fun _ x => ∃ q, q < 16 ∧ x = nI q) ⟨q, hq, rfl⟩ (fun j _ => h9 j), fun s i j hij hj => ?_, fun s i h1 h2 => ?_, h12, h13⟩
  · by_cases e : s = t
    · subst e
      rw [pc_n_s (by omega), pk_us]
      exact ⟨by omega, rfl⟩
    · rw [pc_n_u e, pk_un e]
      exact h7 s
  · rw [pk_un (show s ≠ t by omega)]
    exact h8 s z
  · by_cases e : s = t
    · subst e
      rw [pc_n_s (by omega)] at hj
      rw [pk_un (show s * 4 + i ≠ s * 4 + n by omega)]
      by_cases ej : j = n
      · subst ej
        rw [pk_us]
        exact hk i hij
      · rw [pk_un (show s * 4 + j ≠ s * 4 + n by omega)]
        exact h10 s i j hij (by omega)
    · rw [pc_n_u e] at hj
      have := (h7 s).1
      rw [pk_un (show s * 4 + i ≠ t * 4 + n by omega), pk_un (show s * 4 + j ≠ t * 4 + n by omega)]
      exact h10 s i j hij hj
  · by_cases e : s = t
    · subst e
      rw [pc_n_s (by omega)] at h1
      exact h11 s i (by omega) h2
    · rw [pc_n_u e] at h1
      exact h11 s i h1 h2
theorem pc_stage {b cp w t : Nat} {ca tt st al sg sc ky pl : Nat → Int32} {L : Nat → List (Int32 × Int32)} (h : pc_Inv b cp w ca tt st al sg sc ky pl L) (ht : t < b) (hs : st t = 1) :
    pc_Inv b cp w ca tt (upd st t 2) al (upd sg t 1) sc ky pl L := by
  obtain ⟨h1, h2, h3, h4, h5, h6, h7, h8, h9, h10, h11, h12, h13⟩ := h
  have e3 : ¬ st t = 3 := by rw [hs]; decide
  refine ⟨h1, h2, h3, pc_uA (fun s x => s < b → (x = 1 ∨ x = 2 ∨ x = 3 ∨ x = 4)) (fun _ => Or.inr (Or.inl rfl)) (fun j _ z => h4 j z), h5, pc_uA (fun _ x => x = 0 ∨ x = 1) (Or.inr rfl) (fun j _ => h6 j), h7, fun s z => ?_, h9, h10, h11, ?_, ?_⟩
  · rw [pk_un (show s ≠ t by omega), pk_un (show s ≠ t by omega)]
    exact h8 s z
  · rw [pc_cn_keep e3 (by decide)]
    exact h12
  · rw [pc_cn_keep e3 (by decide)]
    exact h13
theorem pc_abort {b cp w t : Nat} {ca tt st al sg sc ky pl : Nat → Int32} {L : Nat → List (Int32 × Int32)} (h : pc_Inv b cp w ca tt st al sg sc ky pl L) (ht : t < b) (hs : ¬ st t = 3) :
    pc_Inv b cp w ca tt (upd st t 4) al sg sc ky pl L := by
  obtain ⟨h1, h2, h3, h4, h5, h6, h7, h8, h9, h10, h11, h12, h13⟩ := h
  refine ⟨h1, h2, h3, pc_uA (fun s x => s < b → (x = 1 ∨ x = 2 ∨ x = 3 ∨ x = 4)) (fun _ => Or.inr (Or.inr (Or.inr rfl))) (fun j _ z => h4 j z), h5, h6, h7, fun s z => ?_, h9, h10, h11, ?_, ?_⟩
  · rw [pk_un (show s ≠ t by omega)]
    exact h8 s z
  · rw [pc_cn_keep hs (by decide)]
    exact h12
  · rw [pc_cn_keep hs (by decide)]
    exact h13
theorem pc_commit {b cp w t n : Nat} {ca tt st al sg sc ky vl pl : Nat → Int32} {L : Nat → List (Int32 × Int32)} (h : pc_Inv b cp w ca tt st al sg sc ky pl L) (ht : t < b) (hs : ¬ st t = 3) (hn : sc t = nI n) (h4n : n ≤ 4) :
    pc_Inv b cp (w + n) ca tt (upd st t 3) al sg sc ky pl (pc_cm ky vl (tt t) (t * 4) L n) := by
  obtain ⟨h1, h2, h3, h4, h5, h6, h7, h8, h9, h10, h11, h12, h13⟩ := h
  have en : pc_n sc t = n := by
    show (sc t).toNatClampNeg = n
    rw [hn, nI_clamp (by omega)]
  refine ⟨h1, h2, h3, pc_uA (fun s x => s < b → (x = 1 ∨ x = 2 ∨ x = 3 ∨ x = 4)) (fun _ => Or.inr (Or.inr (Or.inl rfl))) (fun j _ z => h4 j z), h5, h6, h7, fun s z => ?_, h9, h10, h11, fun q => ?_, ?_⟩
  · rw [pk_un (show s ≠ t by omega)]
    exact h8 s z
  · rw [pc_cn_up hs 8 (by omega)]
    have a := pc_cm_len (key := ky) (val := vl) (ts := tt t) (c := t * 4) (q := q) (n := n) (L := L) (fun i j hi hj => h10 t i j hi (by omega)) n (Nat.le_refl n)
    have := h12 q
    omega
  · rw [pc_cn_up hs 8 (by omega)]
    omega
theorem pc_deliver {b cp w t i n : Nat} {ca tt st al sg sc ky pl : Nat → Int32} {L : Nat → List (Int32 × Int32)} {x : Int32} (h : pc_Inv b cp w ca tt st al sg sc ky pl L) (hn : sc t = nI n) (h4n : n ≤ 4) (hi : i < n) :
    pc_Inv b cp w ca tt st al sg sc ky (upd pl (t * 4 + i) x) L := by
  obtain ⟨h1, h2, h3, h4, h5, h6, h7, h8, h9, h10, h11, h12, h13⟩ := h
  have en : pc_n sc t = n := by
    show (sc t).toNatClampNeg = n
    rw [hn, nI_clamp (by omega)]
  refine ⟨h1, h2, h3, h4, h5, h6, h7, h8, h9, h10, fun s j hj h4j => ?_, h12, h13⟩
  by_cases e : s = t
  · subst e
    rw [pk_un (show s * 4 + j ≠ s * 4 + i by omega)]
    exact h11 s j hj h4j
  · rw [pk_un (show s * 4 + j ≠ t * 4 + i by omega)]
    exact h11 s j hj h4j
theorem pc_crash {b cp w t : Nat} {ca tt st al sg sc ky pl : Nat → Int32} {L : Nat → List (Int32 × Int32)} (h : pc_Inv b cp w ca tt st al sg sc ky pl L) :
    pc_Inv b cp w ca tt st (upd al t 0) sg sc ky pl L := by
  obtain ⟨h1, h2, h3, h4, h5, h6, h7, h8, h9, h10, h11, h12, h13⟩ := h
  exact ⟨h1, h2, h3, h4, pc_uA (fun _ x => x = 0 ∨ x = 1) (Or.inl rfl) (fun j _ => h5 j), h6, h7, h8, h9, h10, h11, h12, h13⟩
theorem pc_cache {b cp w q : Nat} {ca tt st al sg sc ky pl : Nat → Int32} {L : Nat → List (Int32 × Int32)} {x : Int32} (h : pc_Inv b cp w ca tt st al sg sc ky pl L) (hx : ¬ x < 0) :
    pc_Inv b cp w (upd ca q x) tt st al sg sc ky pl L := by
  obtain ⟨h1, h2, h3, h4, h5, h6, h7, h8, h9, h10, h11, h12, h13⟩ := h
  exact ⟨h1, pc_uA (fun _ x => ¬ x < 0) hx (fun j _ => h2 j), h3, h4, h5, h6, h7, h8, h9, h10, h11, h12, h13⟩
/-! ## intents: the first delivered slot of an undecided transaction on the key -/
def pc_und (st : Nat → Int32) (t : Nat) : Prop := st t = 1 ∨ st t = 2
def pc_hit (st sc ky pl : Nat → Int32) (k : Int32) (t i : Nat) : Prop := pc_und st t ∧ i < pc_n sc t ∧ ¬ pl (t * 4 + i) = 0 ∧ ky (t * 4 + i) = k
theorem pc_first (st sc ky pl : Nat → Int32) (k : Int32) (b : Nat) : (∀ t, t < b → ∀ i, ¬ pc_hit st sc ky pl k t i) ∨
    ∃ t i, t < b ∧ pc_hit st sc ky pl k t i ∧ (∀ s, s < t → ∀ j, ¬ pc_hit st sc ky pl k s j) ∧ (∀ j, j < i → ¬ pc_hit st sc ky pl k t j) := by
  by_cases h : ∃ t, t < b ∧ ∃ i, pc_hit st sc ky pl k t i
  · obtain ⟨t, ⟨ht, hi⟩, hl⟩ := pk_least (fun t => t < b ∧ ∃ i, pc_hit st sc ky pl k t i) h
    obtain ⟨i, hi, hj⟩ := pk_least (fun i => pc_hit st sc ky pl k t i) hi
    exact Or.inr ⟨t, i, ht, hi, fun s hs j z => hl s hs ⟨by omega, j, z⟩, hj⟩
  · exact Or.inl (fun t ht i z => h ⟨t, ht, i, z⟩)
