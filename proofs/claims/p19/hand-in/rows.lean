section
/-! ## numbers -/
theorem pc_4 : (4 : Int32) = nI 4 := by decide +kernel
theorem pc_8 : (8 : Int32) = nI 8 := by decide +kernel
theorem pc_16 : (16 : Int32) = nI 16 := by decide +kernel
theorem pc_32 : (32 : Int32) = nI 32 := by decide +kernel
theorem pc_cell (t i : Nat) : nI t * 4 + nI i = nI (t * 4 + i) := by rw [pc_4, pk_mul, nI_add]
theorem pc_m4 (t : Nat) : nI t * 4 = nI (t * 4) := by rw [pc_4, pk_mul]
theorem pc_m8 (q : Nat) : nI q * 8 = nI (q * 8) := by rw [pc_8, pk_mul]
/-- an argument against a bound: negative, too large, or a natural below -/
theorem pc_ix (x : Int32) (b : Nat) (hb : b < 2 ^ 31) : (x < 0 ∧ ¬ 0 ≤ x) ∨ (¬ x < 0 ∧ 0 ≤ x ∧ ¬ x < nI b ∧ nI b ≤ x) ∨ ∃ t, t < b ∧ x = nI t := by
  by_cases h : x < 0
  · exact Or.inl ⟨h, Int32.not_le.mpr h⟩
  · obtain ⟨j, hj, rfl⟩ := nI_of h
    by_cases h2 : j < b
    · exact Or.inr (Or.inr ⟨j, h2, rfl⟩)
    · exact Or.inr (Or.inl ⟨h, Int32.not_lt.mp h, nI_nlt (by omega) hj, nI_le (by omega) hj⟩)
theorem pc_nI_lt {a b : Nat} (h : a < b) (hb : b < 2 ^ 31) : nI a < nI b ∧ ¬ nI b ≤ nI a ∧ ¬ nI a < 0 ∧ 0 ≤ nI a :=
  ⟨nI_lt h hb, nI_ge h hb, nI_pos (by omega), nI_pos' (by omega)⟩
/-! ## counting the committed -/
def pc_cn (st : Nat → Int32) : Nat → Nat
  | 0 => 0
  | n + 1 => pc_cn st n + (if st n = 3 then 1 else 0)
theorem pc_cn_le (st : Nat → Int32) (n : Nat) : pc_cn st n ≤ n := by
  induction n with
  | zero => exact Nat.le_refl 0
  | succ n ih =>
    show pc_cn st n + (if st n = 3 then 1 else 0) ≤ n + 1
    split <;> omega
theorem pc_cn_lt {st : Nat → Int32} {t : Nat} (h3 : ¬ st t = 3) : ∀ n, t < n → pc_cn st n < n := by
  intro n
  induction n with
  | zero => intro h; omega
  | succ n ih =>
    intro h
    show pc_cn st n + (if st n = 3 then 1 else 0) < n + 1
    by_cases e : t = n
    · subst e
      rw [if_neg h3]
      have := pc_cn_le st t
      omega
    · have := ih (by omega)
      split <;> omega
theorem pc_cn_out {st : Nat → Int32} {t : Nat} {x : Int32} : ∀ n, n ≤ t → pc_cn (upd st t x) n = pc_cn st n := by
  intro n
  induction n with
  | zero => intro _; rfl
  | succ n ih =>
    intro h
    show pc_cn (upd st t x) n + (if upd st t x n = 3 then 1 else 0) = pc_cn st n + (if st n = 3 then 1 else 0)
    rw [ih (by omega), pk_un (by omega)]
theorem pc_cn_keep {st : Nat → Int32} {t : Nat} {x : Int32} (h : ¬ st t = 3) (hx : ¬ x = 3) (n : Nat) : pc_cn (upd st t x) n = pc_cn st n := by
  induction n with
  | zero => rfl
  | succ n ih =>
    show pc_cn (upd st t x) n + (if upd st t x n = 3 then 1 else 0) = pc_cn st n + (if st n = 3 then 1 else 0)
    rw [ih]
    by_cases e : n = t
    · subst e
      rw [pk_us, if_neg hx, if_neg h]
    · rw [pk_un e]
theorem pc_cn_up {st : Nat → Int32} {t : Nat} (h : ¬ st t = 3) : ∀ n, t < n → pc_cn (upd st t 3) n = pc_cn st n + 1 := by
  intro n
  induction n with
  | zero => intro z; omega
  | succ n ih =>
    intro z
    show pc_cn (upd st t 3) n + (if upd st t 3 n = 3 then 1 else 0) = pc_cn st n + (if st n = 3 then 1 else 0) + 1
    by_cases e : n = t
    · subst e
      rw [pk_us, if_pos rfl, if_neg h, pc_cn_out n (Nat.le_refl n)]
    · rw [pk_un e, ih (by omega)]
      omega
/-! ## versions: the lists both sides keep -/
def pc_xl (vt vv : Nat → Int32) (q : Nat) : Nat → List (Int32 × Int32)
  | 0 => []
  | n + 1 => pc_xl vt vv q n ++ [(vt (q * 8 + n), vv (q * 8 + n))]
def pc_yl (wk wt wv : Nat → Int32) (k : Int32) : Nat → List (Int32 × Int32)
  | 0 => []
  | n + 1 => if wk n = k then pc_yl wk wt wv k n ++ [(wt n, wv n)] else pc_yl wk wt wv k n
def pc_ap (L : Nat → List (Int32 × Int32)) (k ts v : Int32) : Nat → List (Int32 × Int32) :=
  fun q => if k = nI q then L q ++ [(ts, v)] else L q
/-- the lists after the first i writes of the transaction whose cells begin at c -/
def pc_cm (key val : Nat → Int32) (ts : Int32) (c : Nat) (L : Nat → List (Int32 × Int32)) : Nat → Nat → List (Int32 × Int32)
  | 0 => L
  | i + 1 => pc_ap (pc_cm key val ts c L i) (key (c + i)) ts (val (c + i))
/-- the floor's step and the read's step -/
def pc_g (f : Int32) (p : Int32 × Int32) : Int32 := if p.1 ≤ f then f else p.1
def pc_rd (ts : Int32) (a : Int32) (p : Int32 × Int32) : Int32 := if ts < p.1 then a else p.2
def pc_XV (vc vt vv : Nat → Int32) (L : Nat → List (Int32 × Int32)) : Prop :=
  ∀ q, q < 16 → ∃ n, n ≤ 8 ∧ vc q = nI n ∧ pc_xl vt vv q n = L q
def pc_YV (wk wt wv : Nat → Int32) (w : Nat) (L : Nat → List (Int32 × Int32)) : Prop :=
  ∀ q, q < 16 → pc_yl wk wt wv (nI q) w = L q
theorem pc_xl_len (vt vv : Nat → Int32) (q n : Nat) : (pc_xl vt vv q n).length = n := by
  induction n with
  | zero => rfl
  | succ n ih =>
    show (pc_xl vt vv q n ++ [(vt (q * 8 + n), vv (q * 8 + n))]).length = n + 1
    rw [List.length_append, ih]
    rfl
theorem pc_xl_un {vt vv : Nat → Int32} {q c : Nat} {x y : Int32} : ∀ n, (∀ j, j < n → q * 8 + j ≠ c) → pc_xl (upd vt c x) (upd vv c y) q n = pc_xl vt vv q n := by
  intro n
  induction n with
  | zero => intro _; rfl
  | succ n ih =>
    intro h
    show pc_xl (upd vt c x) (upd vv c y) q n ++ [(upd vt c x (q * 8 + n), upd vv c y (q * 8 + n))] = _
    rw [ih (fun j hj => h j (by omega)), pk_un (h n (by omega)), pk_un (h n (by omega))]
    rfl
theorem pc_yl_un {wk wt wv : Nat → Int32} {w : Nat} {k x y z : Int32} : ∀ n, n ≤ w → pc_yl (upd wk w x) (upd wt w y) (upd wv w z) k n = pc_yl wk wt wv k n := by
  intro n
  induction n with
  | zero => intro _; rfl
  | succ n ih =>
    intro h
    show (if upd wk w x n = k then pc_yl (upd wk w x) (upd wt w y) (upd wv w z) k n ++ [(upd wt w y n, upd wv w z n)] else pc_yl (upd wk w x) (upd wt w y) (upd wv w z) k n) = _
    rw [ih (by omega), pk_un (by omega), pk_un (by omega), pk_un (by omega)]
    rfl
theorem pc_XV_ap {vc vt vv : Nat → Int32} {L : Nat → List (Int32 × Int32)} {q n : Nat} {ts v : Int32} (h : pc_XV vc vt vv L) (hq : q < 16) (hn : vc q = nI n) (h8 : n < 8) :
    pc_XV (upd vc q (nI (n + 1))) (upd vt (q * 8 + n) ts) (upd vv (q * 8 + n) v) (pc_ap L (nI q) ts v) := by
  intro p hp
  obtain ⟨m, hm, e, l⟩ := h p hp
  by_cases z : p = q
  · subst z
    have em : m = n := by
      rw [e] at hn
      exact (nI_eq (by omega) (by omega)).mp hn
    subst em
    refine ⟨m + 1, by omega, pk_us, ?_⟩
    show pc_xl (upd vt (p * 8 + m) ts) (upd vv (p * 8 + m) v) p m ++ [(upd vt (p * 8 + m) ts (p * 8 + m), upd vv (p * 8 + m) v (p * 8 + m))] = (if nI p = nI p then L p ++ [(ts, v)] else L p)
    rw [pc_xl_un m (fun j hj => by omega), pk_us, pk_us, if_pos rfl, l]
  · refine ⟨m, hm, by rw [pk_un z, e], ?_⟩
    show _ = (if nI q = nI p then L p ++ [(ts, v)] else L p)
    rw [pc_xl_un m (fun j hj => by omega), if_neg (fun t => z ((nI_eq (by omega) (by omega)).mp t).symm), l]
theorem pc_YV_ap {wk wt wv : Nat → Int32} {w : Nat} {L : Nat → List (Int32 × Int32)} {k ts v : Int32} (h : pc_YV wk wt wv w L) :
    pc_YV (upd wk w k) (upd wt w ts) (upd wv w v) (w + 1) (pc_ap L k ts v) := by
  intro q hq
  show (if upd wk w k w = nI q then pc_yl (upd wk w k) (upd wt w ts) (upd wv w v) (nI q) w ++ [(upd wt w ts w, upd wv w v w)] else pc_yl (upd wk w k) (upd wt w ts) (upd wv w v) (nI q) w) = (if k = nI q then L q ++ [(ts, v)] else L q)
  rw [pc_yl_un w (Nat.le_refl w), pk_us, pk_us, pk_us, h q hq]
theorem pc_cm_un {key val : Nat → Int32} {ts : Int32} {c q : Nat} {L : Nat → List (Int32 × Int32)} : ∀ i, (∀ j, j < i → ¬ key (c + j) = nI q) → pc_cm key val ts c L i q = L q := by
  intro i
  induction i with
  | zero => intro _; rfl
  | succ i ih =>
    intro h
    show (if key (c + i) = nI q then pc_cm key val ts c L i q ++ [(ts, val (c + i))] else pc_cm key val ts c L i q) = L q
    rw [if_neg (h i (by omega)), ih (fun j hj => h j (by omega))]
theorem pc_cm_len {key val : Nat → Int32} {ts : Int32} {c q n : Nat} {L : Nat → List (Int32 × Int32)} (hd : ∀ i j, i < j → j < n → ¬ key (c + i) = key (c + j)) :
    ∀ i, i ≤ n → (pc_cm key val ts c L i q).length ≤ (L q).length + 1 := by
  intro i
  induction i with
  | zero => intro _; exact Nat.le_succ _
  | succ i ih =>
    intro h
    show (if key (c + i) = nI q then pc_cm key val ts c L i q ++ [(ts, val (c + i))] else pc_cm key val ts c L i q).length ≤ _
    by_cases e : key (c + i) = nI q
    · rw [if_pos e, pc_cm_un i (fun j hj z => hd j i hj (by omega) (z.trans e.symm)), List.length_append]
      exact Nat.le_refl _
    · rw [if_neg e]
      exact ih (by omega)
end
section
/-! ## the invariant of the shared state, and that each call keeps it -/
theorem pc_uA {f : Nat → Int32} {k : Nat} {x : Int32} (P : Nat → Int32 → Prop) (hx : P k x) (hf : ∀ j, j ≠ k → P j (f j)) : ∀ j, P j (upd f k x j) := by
  intro j
  by_cases e : j = k
  · subst e
    rw [pk_us]
    exact hx
  · rw [pk_un e]
    exact hf j e
theorem pc_same {f : Nat → Int32} {k : Nat} {x : Int32} (h : f k = x) : upd f k x = f := by
  funext j
  by_cases e : j = k
  · subst e
    rw [pk_us, h]
  · rw [pk_un e]
def pc_n (sc : Nat → Int32) (t : Nat) : Nat := (sc t).toNatClampNeg
theorem pc_n_s {sc : Nat → Int32} {t m : Nat} (h : m < 2 ^ 31) : pc_n (upd sc t (nI m)) t = m := by
  show (upd sc t (nI m) t).toNatClampNeg = m
  rw [pk_us, nI_clamp h]
theorem pc_n_u {sc : Nat → Int32} {t s : Nat} {x : Int32} (h : s ≠ t) : pc_n (upd sc t x) s = pc_n sc s := by
  show (upd sc t x s).toNatClampNeg = (sc s).toNatClampNeg
  rw [pk_un h]
/-- b begun of cp; w versions in all; ca cache, tt timestamps, st statuses, al alive, sg staged, sc slot counts, ky keys, pl placed; L the versions of each key -/
def pc_Inv (b cp w : Nat) (ca tt st al sg sc ky pl : Nat → Int32) (L : Nat → List (Int32 × Int32)) : Prop :=
  (b ≤ cp ∧ cp ≤ 8) ∧ (∀ i, ¬ ca i < 0) ∧ (∀ t, ¬ tt t < 0) ∧
  (∀ t, t < b → (st t = 1 ∨ st t = 2 ∨ st t = 3 ∨ st t = 4)) ∧ (∀ t, al t = 0 ∨ al t = 1) ∧ (∀ t, sg t = 0 ∨ sg t = 1) ∧
  (∀ t, pc_n sc t ≤ 4 ∧ sc t = nI (pc_n sc t)) ∧ (∀ t, b ≤ t → sc t = 0 ∧ sg t = 0 ∧ st t = 0) ∧
  (∀ c, ∃ q, q < 16 ∧ ky c = nI q) ∧ (∀ t i j, i < j → j < pc_n sc t → ¬ ky (t * 4 + i) = ky (t * 4 + j)) ∧
  (∀ t i, pc_n sc t ≤ i → i < 4 → pl (t * 4 + i) = 0) ∧
  (∀ q, (L q).length ≤ pc_cn st 8) ∧ w ≤ 4 * pc_cn st 8
theorem pc_Inv0 {cp : Nat} (h : cp ≤ 8) : pc_Inv 0 cp 0 (fun _ => 0) (fun _ => 0) (fun _ => 0) (fun _ => 0) (fun _ => 0) (fun _ => 0) (fun _ => 0) (fun _ => 0) (fun _ => []) := by
  refine ⟨⟨Nat.zero_le _, h⟩, fun i => (by decide : ¬ (0 : Int32) < 0), fun i => (by decide : ¬ (0 : Int32) < 0), fun t z => absurd z (Nat.not_lt_zero t), fun t => Or.inl rfl, fun t => Or.inl rfl, fun t => ⟨(by decide : (0 : Int32).toNatClampNeg ≤ 4), (by decide +kernel : (0 : Int32) = nI (0 : Int32).toNatClampNeg)⟩, fun t _ => ⟨rfl, rfl, rfl⟩, fun c => ⟨0, by omega, nI_0.symm⟩, fun t i j h1 h2 => ?_, fun t i _ _ => rfl, fun q => Nat.zero_le _, Nat.zero_le _⟩
  have h3 : j < (0 : Int32).toNatClampNeg := h2
  rw [show (0 : Int32).toNatClampNeg = 0 from by decide] at h3
  omega
theorem pc_begin {b cp w : Nat} {ca tt st al sg sc ky pl : Nat → Int32} {L : Nat → List (Int32 × Int32)} {ts : Int32} (h : pc_Inv b cp w ca tt st al sg sc ky pl L) (hb : b < cp) (hts : ¬ ts < 0) :
    pc_Inv (b + 1) cp w ca (upd tt b ts) (upd st b 1) (upd al b 1) sg sc ky pl L := by
  obtain ⟨h1, h2, h3, h4, h5, h6, h7, h8, h9, h10, h11, h12, h13⟩ := h
  have e3 : ¬ st b = 3 := by rw [(h8 b (Nat.le_refl b)).2.2]; decide
  refine ⟨⟨by omega, h1.2⟩, h2, pc_uA (fun _ x => ¬ x < 0) hts (fun j _ => h3 j), pc_uA (fun t x => t < b + 1 → (x = 1 ∨ x = 2 ∨ x = 3 ∨ x = 4)) (fun _ => Or.inl rfl) (fun j e z => h4 j (by omega)), pc_uA (fun _ x => x = 0 ∨ x = 1) (Or.inr rfl) (fun j _ => h5 j), h6, h7, fun t z => ?_, h9, h10, h11, ?_, ?_⟩
  · rw [pk_un (show t ≠ b by omega)]
    exact h8 t (by omega)
  · rw [pc_cn_keep e3 (by decide)]
    exact h12
  · rw [pc_cn_keep e3 (by decide)]
    exact h13
theorem pc_add {b cp w t n q : Nat} {ca tt st al sg sc ky pl : Nat → Int32} {L : Nat → List (Int32 × Int32)} (h : pc_Inv b cp w ca tt st al sg sc ky pl L) (ht : t < b) (hn : sc t = nI n) (h4 : n < 4) (hq : q < 16)
    (hk : ∀ i, i < n → ¬ ky (t * 4 + i) = nI q) : pc_Inv b cp w ca tt st al sg (upd sc t (nI (n + 1))) (upd ky (t * 4 + n) (nI q)) pl L := by
  obtain ⟨h1, h2, h3, h4', h5, h6, h7, h8, h9, h10, h11, h12, h13⟩ := h
  have en : pc_n sc t = n := by
    show (sc t).toNatClampNeg = n
    rw [hn, nI_clamp (by omega)]
  refine ⟨h1, h2, h3, h4', h5, h6, fun s => ?_, fun s z => ?_, pc_uA (fun _ x => ∃ q, q < 16 ∧ x = nI q) ⟨q, hq, rfl⟩ (fun j _ => h9 j), fun s i j hij hj => ?_, fun s i h1 h2 => ?_, h12, h13⟩
  · by_cases e : s = t
    · subst e
      rw [pc_n_s (by omega), pk_us]
      exact ⟨by omega, rfl⟩
    · rw [pc_n_u e, pk_un e]
      exact h7 s
  · rw [pk_un (show s ≠ t by omega)]
    exact h8 s z
  · by_cases e : s = t
    · subst e
      rw [pc_n_s (by omega)] at hj
      rw [pk_un (show s * 4 + i ≠ s * 4 + n by omega)]
      by_cases ej : j = n
      · subst ej
        rw [pk_us]
        exact hk i hij
      · rw [pk_un (show s * 4 + j ≠ s * 4 + n by omega)]
        exact h10 s i j hij (by omega)
    · rw [pc_n_u e] at hj
      have := (h7 s).1
      rw [pk_un (show s * 4 + i ≠ t * 4 + n by omega), pk_un (show s * 4 + j ≠ t * 4 + n by omega)]
      exact h10 s i j hij hj
  · by_cases e : s = t
    · subst e
      rw [pc_n_s (by omega)] at h1
      exact h11 s i (by omega) h2
    · rw [pc_n_u e] at h1
      exact h11 s i h1 h2
theorem pc_stage {b cp w t : Nat} {ca tt st al sg sc ky pl : Nat → Int32} {L : Nat → List (Int32 × Int32)} (h : pc_Inv b cp w ca tt st al sg sc ky pl L) (ht : t < b) (hs : st t = 1) :
    pc_Inv b cp w ca tt (upd st t 2) al (upd sg t 1) sc ky pl L := by
  obtain ⟨h1, h2, h3, h4, h5, h6, h7, h8, h9, h10, h11, h12, h13⟩ := h
  have e3 : ¬ st t = 3 := by rw [hs]; decide
  refine ⟨h1, h2, h3, pc_uA (fun s x => s < b → (x = 1 ∨ x = 2 ∨ x = 3 ∨ x = 4)) (fun _ => Or.inr (Or.inl rfl)) (fun j _ z => h4 j z), h5, pc_uA (fun _ x => x = 0 ∨ x = 1) (Or.inr rfl) (fun j _ => h6 j), h7, fun s z => ?_, h9, h10, h11, ?_, ?_⟩
  · rw [pk_un (show s ≠ t by omega), pk_un (show s ≠ t by omega)]
    exact h8 s z
  · rw [pc_cn_keep e3 (by decide)]
    exact h12
  · rw [pc_cn_keep e3 (by decide)]
    exact h13
theorem pc_abort {b cp w t : Nat} {ca tt st al sg sc ky pl : Nat → Int32} {L : Nat → List (Int32 × Int32)} (h : pc_Inv b cp w ca tt st al sg sc ky pl L) (ht : t < b) (hs : ¬ st t = 3) :
    pc_Inv b cp w ca tt (upd st t 4) al sg sc ky pl L := by
  obtain ⟨h1, h2, h3, h4, h5, h6, h7, h8, h9, h10, h11, h12, h13⟩ := h
  refine ⟨h1, h2, h3, pc_uA (fun s x => s < b → (x = 1 ∨ x = 2 ∨ x = 3 ∨ x = 4)) (fun _ => Or.inr (Or.inr (Or.inr rfl))) (fun j _ z => h4 j z), h5, h6, h7, fun s z => ?_, h9, h10, h11, ?_, ?_⟩
  · rw [pk_un (show s ≠ t by omega)]
    exact h8 s z
  · rw [pc_cn_keep hs (by decide)]
    exact h12
  · rw [pc_cn_keep hs (by decide)]
    exact h13
theorem pc_commit {b cp w t n : Nat} {ca tt st al sg sc ky vl pl : Nat → Int32} {L : Nat → List (Int32 × Int32)} (h : pc_Inv b cp w ca tt st al sg sc ky pl L) (ht : t < b) (hs : ¬ st t = 3) (hn : sc t = nI n) (h4n : n ≤ 4) :
    pc_Inv b cp (w + n) ca tt (upd st t 3) al sg sc ky pl (pc_cm ky vl (tt t) (t * 4) L n) := by
  obtain ⟨h1, h2, h3, h4, h5, h6, h7, h8, h9, h10, h11, h12, h13⟩ := h
  have en : pc_n sc t = n := by
    show (sc t).toNatClampNeg = n
    rw [hn, nI_clamp (by omega)]
  refine ⟨h1, h2, h3, pc_uA (fun s x => s < b → (x = 1 ∨ x = 2 ∨ x = 3 ∨ x = 4)) (fun _ => Or.inr (Or.inr (Or.inl rfl))) (fun j _ z => h4 j z), h5, h6, h7, fun s z => ?_, h9, h10, h11, fun q => ?_, ?_⟩
  · rw [pk_un (show s ≠ t by omega)]
    exact h8 s z
  · rw [pc_cn_up hs 8 (by omega)]
    have a := pc_cm_len (key := ky) (val := vl) (ts := tt t) (c := t * 4) (q := q) (n := n) (L := L) (fun i j hi hj => h10 t i j hi (by omega)) n (Nat.le_refl n)
    have := h12 q
    omega
  · rw [pc_cn_up hs 8 (by omega)]
    omega
theorem pc_deliver {b cp w t i n : Nat} {ca tt st al sg sc ky pl : Nat → Int32} {L : Nat → List (Int32 × Int32)} {x : Int32} (h : pc_Inv b cp w ca tt st al sg sc ky pl L) (hn : sc t = nI n) (h4n : n ≤ 4) (hi : i < n) :
    pc_Inv b cp w ca tt st al sg sc ky (upd pl (t * 4 + i) x) L := by
  obtain ⟨h1, h2, h3, h4, h5, h6, h7, h8, h9, h10, h11, h12, h13⟩ := h
  have en : pc_n sc t = n := by
    show (sc t).toNatClampNeg = n
    rw [hn, nI_clamp (by omega)]
  refine ⟨h1, h2, h3, h4, h5, h6, h7, h8, h9, h10, fun s j hj h4j => ?_, h12, h13⟩
  by_cases e : s = t
  · subst e
    rw [pk_un (show s * 4 + j ≠ s * 4 + i by omega)]
    exact h11 s j hj h4j
  · rw [pk_un (show s * 4 + j ≠ t * 4 + i by omega)]
    exact h11 s j hj h4j
theorem pc_crash {b cp w t : Nat} {ca tt st al sg sc ky pl : Nat → Int32} {L : Nat → List (Int32 × Int32)} (h : pc_Inv b cp w ca tt st al sg sc ky pl L) :
    pc_Inv b cp w ca tt st (upd al t 0) sg sc ky pl L := by
  obtain ⟨h1, h2, h3, h4, h5, h6, h7, h8, h9, h10, h11, h12, h13⟩ := h
  exact ⟨h1, h2, h3, h4, pc_uA (fun _ x => x = 0 ∨ x = 1) (Or.inl rfl) (fun j _ => h5 j), h6, h7, h8, h9, h10, h11, h12, h13⟩
theorem pc_cache {b cp w q : Nat} {ca tt st al sg sc ky pl : Nat → Int32} {L : Nat → List (Int32 × Int32)} {x : Int32} (h : pc_Inv b cp w ca tt st al sg sc ky pl L) (hx : ¬ x < 0) :
    pc_Inv b cp w (upd ca q x) tt st al sg sc ky pl L := by
  obtain ⟨h1, h2, h3, h4, h5, h6, h7, h8, h9, h10, h11, h12, h13⟩ := h
  exact ⟨h1, pc_uA (fun _ x => ¬ x < 0) hx (fun j _ => h2 j), h3, h4, h5, h6, h7, h8, h9, h10, h11, h12, h13⟩
/-! ## intents: the first delivered slot of an undecided transaction on the key -/
def pc_und (st : Nat → Int32) (t : Nat) : Prop := st t = 1 ∨ st t = 2
def pc_hit (st sc ky pl : Nat → Int32) (k : Int32) (t i : Nat) : Prop := pc_und st t ∧ i < pc_n sc t ∧ ¬ pl (t * 4 + i) = 0 ∧ ky (t * 4 + i) = k
theorem pc_first (st sc ky pl : Nat → Int32) (k : Int32) (b : Nat) : (∀ t, t < b → ∀ i, ¬ pc_hit st sc ky pl k t i) ∨
    ∃ t i, t < b ∧ pc_hit st sc ky pl k t i ∧ (∀ s, s < t → ∀ j, ¬ pc_hit st sc ky pl k s j) ∧ (∀ j, j < i → ¬ pc_hit st sc ky pl k t j) := by
  by_cases h : ∃ t, t < b ∧ ∃ i, pc_hit st sc ky pl k t i
  · obtain ⟨t, ⟨ht, hi⟩, hl⟩ := pk_least (fun t => t < b ∧ ∃ i, pc_hit st sc ky pl k t i) h
    obtain ⟨i, hi, hj⟩ := pk_least (fun i => pc_hit st sc ky pl k t i) hi
    exact Or.inr ⟨t, i, ht, hi, fun s hs j z => hl s hs ⟨by omega, j, z⟩, hj⟩
  · exact Or.inl (fun t ht i z => h ⟨t, ht, i, z⟩)
end
section
/-! ## the component's own methods and loops -/
section
variable {fc fb fw : Int32} {ca vc vt vv tt st al sg sc ky vl pl wk wt wv : Nat → Int32}
/-- a cache raised to x at q, if x is above -/
def pc_ra (ca : Nat → Int32) (q : Nat) (x : Int32) : Nat → Int32 := if x ≤ ca q then ca else upd ca q x
/-- the cache after the undelivered among the first i slots are prevented -/
def pc_pv (ca ky pl : Nat → Int32) (ts : Int32) (c : Nat) : Nat → Nat → Int32
  | 0 => ca
  | i + 1 => if pl (c + i) = 0 then pc_ra (pc_pv ca ky pl ts c i) (ky (c + i)).toNatClampNeg ts else pc_pv ca ky pl ts c i
theorem xh_writesKey {post : Int32 → Prop} {t n : Nat} {k : Int32} (ht : t < 8) (hn : sc t = nI n) (h4 : n ≤ 4)
    (hT : (∃ i, i < n ∧ ky (t * 4 + i) = k) → post 1) (hF : (∀ i, i < n → ¬ ky (t * 4 + i) = k) → post 0) : wpX_writesKey post (fc, fb, ca, vc, vt, vv, tt, st, al, sg, sc, ky, vl, pl) (nI t) k := by
  have et : (nI t).toNatClampNeg = t := nI_clamp (by omega)
  have vt8 : vp_in (nI t) 8 := vp_in_nI ht (by omega)
  refine pk_loop (σ := Unit) (fun f i _ => wX_writesKey_2 post (nI t) k fc fb ca vc vt vv tt st al sg sc ky vl pl f (nI i)) (fun i _ => ∀ j, j < i → ¬ ky (t * 4 + j) = k) n 0 () (Nat.zero_le n) (fun j hj => absurd hj (by omega)) ?_ ?_
  · intro f _ I
    simp only [wX_writesKey_2, et, hn]
    exact ⟨vt8, br_t (nI_le (Nat.le_refl n) (by omega)) (hF I)⟩
  · intro f i _ hi I hw
    have ec : (nI (t * 4 + i)).toNatClampNeg = t * 4 + i := nI_clamp (by omega)
    simp only [wX_writesKey_2, wpX_cellOf, et, hn, pc_cell, ec]
    refine ⟨vt8, br_f (nI_ge hi (by omega)) ⟨vp_in_nI (by omega) (by omega), br_c (fun z => hT ⟨i, hi, z⟩) (fun z => nm_r (nI_1 i) (hw () ?_))⟩⟩
    exact lt_s I z
theorem xh_placedOn {post : Int32 → Prop} {t n : Nat} {k : Int32} (ht : t < 8) (hn : sc t = nI n) (h4 : n ≤ 4)
    (hT : ∀ i, i < n → ky (t * 4 + i) = k → post (pl (t * 4 + i))) (hF : (∀ i, i < n → ¬ ky (t * 4 + i) = k) → post 0) : wpX_placedOn post (fc, fb, ca, vc, vt, vv, tt, st, al, sg, sc, ky, vl, pl) (nI t) k := by
  have et : (nI t).toNatClampNeg = t := nI_clamp (by omega)
  have vt8 : vp_in (nI t) 8 := vp_in_nI ht (by omega)
  refine pk_loop (σ := Unit) (fun f i _ => wX_placedOn_2 post (nI t) k fc fb ca vc vt vv tt st al sg sc ky vl pl f (nI i)) (fun i _ => ∀ j, j < i → ¬ ky (t * 4 + j) = k) n 0 () (Nat.zero_le n) (fun j hj => absurd hj (by omega)) ?_ ?_
  · intro f _ I
    simp only [wX_placedOn_2, et, hn]
    exact ⟨vt8, br_t (nI_le (Nat.le_refl n) (by omega)) (hF I)⟩
  · intro f i _ hi I hw
    have ec : (nI (t * 4 + i)).toNatClampNeg = t * 4 + i := nI_clamp (by omega)
    simp only [wX_placedOn_2, wpX_cellOf, et, hn, pc_cell, ec]
    refine ⟨vt8, br_f (nI_ge hi (by omega)) ⟨vp_in_nI (by omega) (by omega), br_c (fun z => ⟨vp_in_nI (by omega) (by omega), hT i hi z⟩) (fun z => nm_r (nI_1 i) (hw () ?_))⟩⟩
    exact lt_s I z
theorem xh_intentTs {post : Int32 → Prop} {b : Nat} {k : Int32} (hb : b ≤ 8) (hst : ∀ t, t < b → (st t = 1 ∨ st t = 2 ∨ st t = 3 ∨ st t = 4)) (hsc : ∀ t, pc_n sc t ≤ 4 ∧ sc t = nI (pc_n sc t))
    (hd : ∀ t i j, i < j → j < pc_n sc t → ¬ ky (t * 4 + i) = ky (t * 4 + j))
    (h0 : (∀ t, t < b → ∀ i, ¬ pc_hit st sc ky pl k t i) → post 0)
    (h1 : ∀ t i, t < b → pc_hit st sc ky pl k t i → (∀ s, s < t → ∀ j, ¬ pc_hit st sc ky pl k s j) → ¬ pl (t * 4 + i) = 0 → post (pl (t * 4 + i))) : wpX_intentTs post (fc, nI b, ca, vc, vt, vv, tt, st, al, sg, sc, ky, vl, pl) k := by
  refine pk_loop (σ := Unit) (fun f i _ => wX_intentTs_2 post k fc (nI b) ca vc vt vv tt st al sg sc ky vl pl f (nI i)) (fun i _ => ∀ s, s < i → ∀ j, ¬ pc_hit st sc ky pl k s j) b 0 () (Nat.zero_le b) (fun j hj => absurd hj (by omega)) ?_ ?_
  · intro f _ I
    simp only [wX_intentTs_2]
    exact br_t (nI_le (Nat.le_refl b) (by omega)) (h0 I)
  · intro f t _ ht I hw
    have et : (nI t).toNatClampNeg = t := nI_clamp (by omega)
    have vt8 : vp_in (nI t) 8 := vp_in_nI (by omega) (by omega)
    simp only [wX_intentTs_2, wpX_isDecided, wX_intentTs_28, et]
    refine br_f (nI_ge ht (by omega)) ⟨vt8, ?_⟩
    by_cases e3 : st t = 3
    · refine br_t e3 (br_f (by decide) (br_t (by trivial) (nm_r (nI_1 t) (hw () (lt_s I (fun j z => ?_))))))
      rcases z.1 with y | y <;> rw [e3] at y <;> exact absurd y (by decide)
    · refine br_f e3 ⟨vt8, ?_⟩
      by_cases e4 : st t = 4
      · refine br_t e4 (br_f (by decide) (br_t (by trivial) (nm_r (nI_1 t) (hw () (lt_s I (fun j z => ?_))))))
        rcases z.1 with y | y <;> rw [e4] at y <;> exact absurd y (by decide)
      · have hu : pc_und st t := by
          rcases hst t ht with y | y | y | y
          · exact Or.inl y
          · exact Or.inr y
          · exact absurd y e3
          · exact absurd y e4
        refine br_f e4 (br_t (by trivial) (xh_placedOn (by omega) (hsc t).2 (hsc t).1 (fun i hi ek => ?_) (fun hF => ?_)))
        · refine br_c (fun z => nm_r (nI_1 t) (hw () (lt_s I (fun j y => ?_)))) (fun z => h1 t i ht ⟨hu, hi, z, ek⟩ I z)
          obtain ⟨_, y2, y3, y4⟩ := y
          rcases Nat.lt_trichotomy i j with g | g | g
          · exact hd t i j g y2 (ek.trans y4.symm)
          · subst g
            exact y3 z
          · exact hd t j i g hi (y4.trans ek.symm)
        · exact br_t (by trivial) (nm_r (nI_1 t) (hw () (lt_s I (fun j y => hF j y.2.1 y.2.2.2))))
theorem xh_floorOf {post : Int32 → Prop} {q : Nat} {L : Nat → List (Int32 × Int32)} (hq : q < 16) (hV : pc_XV vc vt vv L) (hp : post ((L q).foldl pc_g (ca q))) : wpX_floorOf post (fc, fb, ca, vc, vt, vv, tt, st, al, sg, sc, ky, vl, pl) (nI q) := by
  obtain ⟨n, hn, en, el⟩ := hV q hq
  have eq : (nI q).toNatClampNeg = q := nI_clamp (by omega)
  have vq : vp_in (nI q) 16 := vp_in_nI hq (by omega)
  simp only [wpX_floorOf, eq, pc_m8]
  refine ⟨vq, nm_e (nm_e ?_)⟩
  refine pk_loop (σ := Int32) (fun f i s => wX_floorOf_15 post (nI q) (nI (q * 8)) fc fb ca vc vt vv tt st al sg sc ky vl pl f s (nI i)) (fun i s => s = (pc_xl vt vv q i).foldl pc_g (ca q)) n 0 (ca q) (Nat.zero_le n) rfl ?_ ?_
  · intro f s I
    simp only [wX_floorOf_15, eq, en]
    rw [el] at I
    exact ⟨vq, br_t (nI_le (Nat.le_refl n) (by omega)) (by rw [I]; exact hp)⟩
  · intro f i s hi I hw
    have ec : (nI (q * 8 + i)).toNatClampNeg = q * 8 + i := nI_clamp (by omega)
    have vcc : vp_in (nI (q * 8 + i)) 128 := vp_in_nI (by omega) (by omega)
    simp only [wX_floorOf_15, eq, en, nI_add, ec]
    refine ⟨vq, br_f (nI_ge hi (by omega)) ⟨vcc, br_c (fun z => nm_r (nI_1 i) (hw s ?_)) (fun z => ⟨vcc, nm_e (nm_r (nI_1 i) (hw _ ?_))⟩)⟩⟩
    · show s = (pc_xl vt vv q i ++ [(vt (q * 8 + i), vv (q * 8 + i))]).foldl pc_g (ca q)
      rw [List.foldl_append, ← I]
      exact (if_pos z).symm
    · show vt (q * 8 + i) = (pc_xl vt vv q i ++ [(vt (q * 8 + i), vv (q * 8 + i))]).foldl pc_g (ca q)
      rw [List.foldl_append, ← I]
      exact (if_neg z).symm
theorem xh_last {post : Int32 → Prop} {q : Nat} {ts : Int32} {L : Nat → List (Int32 × Int32)} (hq : q < 16) (hV : pc_XV vc vt vv L) (hp : post ((L q).foldl (pc_rd ts) (-9))) : wpX_lastValueUpTo post (fc, fb, ca, vc, vt, vv, tt, st, al, sg, sc, ky, vl, pl) (nI q) ts := by
  obtain ⟨n, hn, en, el⟩ := hV q hq
  have eq : (nI q).toNatClampNeg = q := nI_clamp (by omega)
  have vq : vp_in (nI q) 16 := vp_in_nI hq (by omega)
  simp only [wpX_lastValueUpTo, pc_m8]
  refine nm_e ?_
  refine pk_loop (σ := Int32) (fun f i s => wX_lastValueUpTo_12 post (nI q) ts (nI (q * 8)) fc fb ca vc vt vv tt st al sg sc ky vl pl f s (nI i)) (fun i s => s = (pc_xl vt vv q i).foldl (pc_rd ts) (-9)) n 0 (-9) (Nat.zero_le n) rfl ?_ ?_
  · intro f s I
    simp only [wX_lastValueUpTo_12, eq, en]
    rw [el] at I
    exact ⟨vq, br_t (nI_le (Nat.le_refl n) (by omega)) (by rw [I]; exact hp)⟩
  · intro f i s hi I hw
    have ec : (nI (q * 8 + i)).toNatClampNeg = q * 8 + i := nI_clamp (by omega)
    have vcc : vp_in (nI (q * 8 + i)) 128 := vp_in_nI (by omega) (by omega)
    simp only [wX_lastValueUpTo_12, eq, en, nI_add, ec]
    refine ⟨vq, br_f (nI_ge hi (by omega)) ⟨vcc, br_c (fun z => nm_r (nI_1 i) (hw s ?_)) (fun z => ⟨vcc, nm_e (nm_r (nI_1 i) (hw _ ?_))⟩)⟩⟩
    · show s = (pc_xl vt vv q i ++ [(vt (q * 8 + i), vv (q * 8 + i))]).foldl (pc_rd ts) (-9)
      rw [List.foldl_append, ← I]
      exact (if_pos z).symm
    · show vv (q * 8 + i) = (pc_xl vt vv q i ++ [(vt (q * 8 + i), vv (q * 8 + i))]).foldl (pc_rd ts) (-9)
      rw [List.foldl_append, ← I]
      exact (if_neg z).symm
theorem xh_allDel {post : Int32 → Prop} {t n : Nat} (ht : t < 8) (hn : sc t = nI n) (h4 : n ≤ 4)
    (hT : (∀ i, i < n → ¬ pl (t * 4 + i) = 0) → post 1) (hF : (∃ i, i < n ∧ pl (t * 4 + i) = 0) → post 0) : wpX_everySlotDelivered post (fc, fb, ca, vc, vt, vv, tt, st, al, sg, sc, ky, vl, pl) (nI t) := by
  have et : (nI t).toNatClampNeg = t := nI_clamp (by omega)
  have vt8 : vp_in (nI t) 8 := vp_in_nI ht (by omega)
  refine pk_loop (σ := Unit) (fun f i _ => wX_everySlotDelivered_2 post (nI t) fc fb ca vc vt vv tt st al sg sc ky vl pl f (nI i)) (fun i _ => ∀ j, j < i → ¬ pl (t * 4 + j) = 0) n 0 () (Nat.zero_le n) (fun j hj => absurd hj (by omega)) ?_ ?_
  · intro f _ I
    simp only [wX_everySlotDelivered_2, et, hn]
    exact ⟨vt8, br_t (nI_le (Nat.le_refl n) (by omega)) (hT I)⟩
  · intro f i _ hi I hw
    have ec : (nI (t * 4 + i)).toNatClampNeg = t * 4 + i := nI_clamp (by omega)
    simp only [wX_everySlotDelivered_2, wpX_isDelivered, wpX_cellOf, et, hn, pc_cell, ec]
    refine ⟨vt8, br_f (nI_ge hi (by omega)) ⟨vp_in_nI (by omega) (by omega), br_c (fun z => br_t (by trivial) (hF ⟨i, hi, z⟩)) (fun z => br_f (by decide) (nm_r (nI_1 i) (hw () ?_)))⟩⟩
    exact lt_s I z
theorem xh_allAt {post : Int32 → Prop} {t n : Nat} (ht : t < 8) (hn : sc t = nI n) (h4 : n ≤ 4)
    (hT : (∀ i, i < n → pl (t * 4 + i) = tt t) → post 1) (hF : (∃ i, i < n ∧ ¬ pl (t * 4 + i) = tt t) → post 0) : wpX_everySlotAtTs post (fc, fb, ca, vc, vt, vv, tt, st, al, sg, sc, ky, vl, pl) (nI t) := by
  have et : (nI t).toNatClampNeg = t := nI_clamp (by omega)
  have vt8 : vp_in (nI t) 8 := vp_in_nI ht (by omega)
  refine pk_loop (σ := Unit) (fun f i _ => wX_everySlotAtTs_2 post (nI t) fc fb ca vc vt vv tt st al sg sc ky vl pl f (nI i)) (fun i _ => ∀ j, j < i → pl (t * 4 + j) = tt t) n 0 () (Nat.zero_le n) (fun j hj => absurd hj (by omega)) ?_ ?_
  · intro f _ I
    simp only [wX_everySlotAtTs_2, et, hn]
    exact ⟨vt8, br_t (nI_le (Nat.le_refl n) (by omega)) (hT I)⟩
  · intro f i _ hi I hw
    have ec : (nI (t * 4 + i)).toNatClampNeg = t * 4 + i := nI_clamp (by omega)
    simp only [wX_everySlotAtTs_2, wpX_cellOf, et, hn, pc_cell, ec]
    refine ⟨vt8, br_f (nI_ge hi (by omega)) ⟨vp_in_nI (by omega) (by omega), vt8, br_c (fun z => nm_r (nI_1 i) (hw () ?_)) (fun z => hF ⟨i, hi, z⟩)⟩⟩
    exact lt_s I z
theorem xh_append {post : St1 → Prop} {q n : Nat} {x v : Int32} (hq : q < 16) (hn : vc q = nI n) (h8 : n < 8)
    (hp : post (fc, fb, ca, upd vc q (nI (n + 1)), upd vt (q * 8 + n) x, upd vv (q * 8 + n) v, tt, st, al, sg, sc, ky, vl, pl)) : wpX_appendVersion post (fc, fb, ca, vc, vt, vv, tt, st, al, sg, sc, ky, vl, pl) (nI q) x v := by
  have eq : (nI q).toNatClampNeg = q := nI_clamp (by omega)
  have vq : vp_in (nI q) 16 := vp_in_nI hq (by omega)
  have ec : (nI (q * 8 + n)).toNatClampNeg = q * 8 + n := nI_clamp (by omega)
  have vcc : vp_in (nI (q * 8 + n)) 128 := vp_in_nI (by omega) (by omega)
  simp only [wpX_appendVersion, eq, hn, pc_m8, nI_add]
  refine ⟨vq, nm_e (br_f (nI_ge (b := 8) h8 (by decide)) (nm_r (nI_add (q * 8) n) ⟨vcc, nm_e ⟨vcc, nm_e ⟨vq, nm_e ?_⟩⟩⟩))⟩
  rw [ec, nI_1 n]
  exact hp
theorem xh_commit {post : Int32 → St1 → Prop} {t n : Nat} {L : Nat → List (Int32 × Int32)} (ht : t < 8) (hn : sc t = nI n) (h4 : n ≤ 4) (hky : ∀ c, ∃ q, q < 16 ∧ ky c = nI q)
    (hd : ∀ i j, i < j → j < n → ¬ ky (t * 4 + i) = ky (t * 4 + j)) (hV : pc_XV vc vt vv L) (hL : ∀ q, (L q).length ≤ 7)
    (hp : ∀ vc' vt' vv', pc_XV vc' vt' vv' (pc_cm ky vl (tt t) (t * 4) L n) → post 3 (fc, fb, ca, vc', vt', vv', tt, upd st t 3, al, sg, sc, ky, vl, pl)) : wpX_commit post (fc, fb, ca, vc, vt, vv, tt, st, al, sg, sc, ky, vl, pl) (nI t) := by
  have et : (nI t).toNatClampNeg = t := nI_clamp (by omega)
  have vt8 : vp_in (nI t) 8 := vp_in_nI ht (by omega)
  simp only [wpX_commit, et]
  refine ⟨vt8, nm_e ?_⟩
  refine pk_loop (σ := (Nat → Int32) × (Nat → Int32) × (Nat → Int32)) (fun f i s => wX_commit_9 post (nI t) f (nI i) fc fb ca s.1 s.2.1 s.2.2 tt (upd st t 3) al sg sc ky vl pl) (fun i s => pc_XV s.1 s.2.1 s.2.2 (pc_cm ky vl (tt t) (t * 4) L i)) n 0 (vc, vt, vv) (Nat.zero_le n) hV ?_ ?_
  · intro f s I
    simp only [wX_commit_9, et, hn]
    exact ⟨vt8, br_t (nI_le (Nat.le_refl n) (by omega)) (hp _ _ _ I)⟩
  · intro f i s hi I hw
    obtain ⟨s1, s2, s3⟩ := s
    have ec : (nI (t * 4 + i)).toNatClampNeg = t * 4 + i := nI_clamp (by omega)
    obtain ⟨q, hq, ek⟩ := hky (t * 4 + i)
    have I' : pc_XV s1 s2 s3 (pc_cm ky vl (tt t) (t * 4) L i) := I
    obtain ⟨m, hm, em, el⟩ := I' q hq
    have hm8 : m < 8 := by
      have a := pc_xl_len s2 s3 q m
      rw [el, pc_cm_un i (fun j hj z => hd j i hj hi (z.trans ek.symm))] at a
      have := hL q
      omega
    simp only [wX_commit_9, wpX_cellOf, et, hn, pc_cell, ec, ek]
    refine ⟨vt8, br_f (nI_ge hi (by omega)) ⟨vp_in_nI (by omega) (by omega), vt8, vp_in_nI (by omega) (by omega), xh_append hq em hm8 (nm_r (nI_1 i) ?_)⟩⟩
    have a := pc_XV_ap (ts := tt t) (v := vl (t * 4 + i)) I' hq em hm8
    refine hw (upd s1 q (nI (m + 1)), upd s2 (q * 8 + m) (tt t), upd s3 (q * 8 + m) (vl (t * 4 + i))) ?_
    rw [← ek] at a
    exact a
theorem xh_raise {post : St1 → Prop} {q : Nat} {x : Int32} (hq : q < 16) (hp : post (fc, fb, pc_ra ca q x, vc, vt, vv, tt, st, al, sg, sc, ky, vl, pl)) : wpX_raiseCache post (fc, fb, ca, vc, vt, vv, tt, st, al, sg, sc, ky, vl, pl) (nI q) x := by
  have eq : (nI q).toNatClampNeg = q := nI_clamp (by omega)
  have vq : vp_in (nI q) 16 := vp_in_nI hq (by omega)
  simp only [wpX_raiseCache, eq]
  unfold pc_ra at hp
  refine ⟨vq, br_c (fun z => ?_) (fun z => ⟨vq, nm_e ?_⟩)⟩
  · rw [if_pos z] at hp
    exact hp
  · rw [if_neg z] at hp
    exact hp
theorem xh_prevent {post : St1 → Prop} {t i : Nat} (ht : t < 8) (hi : i < 4) (hky : ∀ c, ∃ q, q < 16 ∧ ky c = nI q) (hp : post (fc, fb, pc_ra ca (ky (t * 4 + i)).toNatClampNeg (tt t), vc, vt, vv, tt, st, al, sg, sc, ky, vl, pl)) : wpX_prevent post (fc, fb, ca, vc, vt, vv, tt, st, al, sg, sc, ky, vl, pl) (nI t) (nI i) := by
  have et : (nI t).toNatClampNeg = t := nI_clamp (by omega)
  have vt8 : vp_in (nI t) 8 := vp_in_nI ht (by omega)
  have ec : (nI (t * 4 + i)).toNatClampNeg = t * 4 + i := nI_clamp (by omega)
  obtain ⟨q, hq, ek⟩ := hky (t * 4 + i)
  have eq : (nI q).toNatClampNeg = q := nI_clamp (by omega)
  rw [ek, eq] at hp
  simp only [wpX_prevent, wpX_cellOf, et, pc_cell, ec, ek]
  exact ⟨vp_in_nI (by omega) (by omega), vt8, xh_raise hq hp⟩
theorem xh_prevAll {post : St1 → Prop} {t n : Nat} (ht : t < 8) (hn : sc t = nI n) (h4 : n ≤ 4) (hky : ∀ c, ∃ q, q < 16 ∧ ky c = nI q)
    (hp : post (fc, fb, pc_pv ca ky pl (tt t) (t * 4) n, vc, vt, vv, tt, st, al, sg, sc, ky, vl, pl)) : wpX_preventUndelivered post (fc, fb, ca, vc, vt, vv, tt, st, al, sg, sc, ky, vl, pl) (nI t) := by
  have et : (nI t).toNatClampNeg = t := nI_clamp (by omega)
  have vt8 : vp_in (nI t) 8 := vp_in_nI ht (by omega)
  refine pk_loop (σ := Nat → Int32) (fun f i s => wX_preventUndelivered_2 post (nI t) f (nI i) fc fb s vc vt vv tt st al sg sc ky vl pl) (fun i s => s = pc_pv ca ky pl (tt t) (t * 4) i) n 0 ca (Nat.zero_le n) rfl ?_ ?_
  · intro f s I
    simp only [wX_preventUndelivered_2, et, hn]
    exact ⟨vt8, br_t (nI_le (Nat.le_refl n) (by omega)) (by rw [I]; exact hp)⟩
  · intro f i s hi I hw
    have ec : (nI (t * 4 + i)).toNatClampNeg = t * 4 + i := nI_clamp (by omega)
    simp only [wX_preventUndelivered_2, wpX_isDelivered, wpX_cellOf, et, hn, pc_cell, ec]
    refine ⟨vt8, br_f (nI_ge hi (by omega)) ⟨vp_in_nI (by omega) (by omega), br_c (fun z => br_t (by trivial) (xh_prevent ht (by omega) hky (nm_r (nI_1 i) (hw _ ?_)))) (fun z => br_f (by decide) (nm_r (nI_1 i) (hw _ ?_)))⟩⟩
    · show pc_ra s _ _ = (if pl (t * 4 + i) = 0 then pc_ra (pc_pv ca ky pl (tt t) (t * 4) i) (ky (t * 4 + i)).toNatClampNeg (tt t) else pc_pv ca ky pl (tt t) (t * 4) i)
      rw [if_pos z, I]
    · show s = (if pl (t * 4 + i) = 0 then pc_ra (pc_pv ca ky pl (tt t) (t * 4) i) (ky (t * 4 + i)).toNatClampNeg (tt t) else pc_pv ca ky pl (tt t) (t * 4) i)
      rw [if_neg z, I]
end
end
section
/-! ## deciding; raised caches -/
section
variable {fc fb fw : Int32} {ca vc vt vv tt st al sg sc ky vl pl wk wt wv : Nat → Int32}
theorem pc_d1 : ((1 : Int32) = 0) = False := eq_false (by decide)
theorem pc_dm1 : ((-1 : Int32) = 0) = False := eq_false (by decide)
theorem pc_dm2 : ((-2 : Int32) = 0) = False := eq_false (by decide)
theorem pc_dm3 : ((-3 : Int32) = 0) = False := eq_false (by decide)
theorem xh_decide {post : Int32 → St1 → Prop} {t n : Nat} {L : Nat → List (Int32 × Int32)} (ht : t < 8) (hn : sc t = nI n) (h4 : n ≤ 4) (hky : ∀ c, ∃ q, q < 16 ∧ ky c = nI q)
    (hd : ∀ i j, i < j → j < n → ¬ ky (t * 4 + i) = ky (t * 4 + j)) (hV : pc_XV vc vt vv L) (hL : ∀ q, (L q).length ≤ 7)
    (hA : (∃ i, i < n ∧ ¬ pl (t * 4 + i) = tt t) → post 4 (fc, fb, ca, vc, vt, vv, tt, upd st t 4, al, sg, sc, ky, vl, pl))
    (hC : (∀ i, i < n → pl (t * 4 + i) = tt t) → ∀ vc' vt' vv', pc_XV vc' vt' vv' (pc_cm ky vl (tt t) (t * 4) L n) → post 3 (fc, fb, ca, vc', vt', vv', tt, upd st t 3, al, sg, sc, ky, vl, pl)) : wpX_decideByPlacement post (fc, fb, ca, vc, vt, vv, tt, st, al, sg, sc, ky, vl, pl) (nI t) := by
  have et : (nI t).toNatClampNeg = t := nI_clamp (by omega)
  have vt8 : vp_in (nI t) 8 := vp_in_nI ht (by omega)
  unfold wpX_decideByPlacement
  refine xh_allAt ht hn h4 (fun hT => br_f (by decide) (xh_commit ht hn h4 hky hd hV hL (hC hT))) (fun hF => br_t (by trivial) ?_)
  simp only [wpX_abort, et]
  exact ⟨vt8, nm_e (hA hF)⟩
theorem pc_raI {b cp w q : Nat} {L : Nat → List (Int32 × Int32)} {x : Int32} (h : pc_Inv b cp w ca tt st al sg sc ky pl L) (hx : ¬ x < 0) : pc_Inv b cp w (pc_ra ca q x) tt st al sg sc ky pl L := by
  unfold pc_ra
  split
  · exact h
  · exact pc_cache h hx
theorem pc_pvI {b cp w c : Nat} {L : Nat → List (Int32 × Int32)} {x : Int32} (h : pc_Inv b cp w ca tt st al sg sc ky pl L) (hx : ¬ x < 0) (i : Nat) : pc_Inv b cp w (pc_pv ca ky pl x c i) tt st al sg sc ky pl L := by
  induction i with
  | zero => exact h
  | succ i ih =>
    show pc_Inv b cp w (if pl (c + i) = 0 then pc_ra (pc_pv ca ky pl x c i) (ky (c + i)).toNatClampNeg x else pc_pv ca ky pl x c i) tt st al sg sc ky pl L
    split
    · exact pc_raI ih hx
    · exact ih
end
end
section
/-! ## p19: what every call keeps: bounds, staged and decided, one intent a key; what a reader saw; implicit commits -/
def pq_imp (b : Nat) (tt sg sc pl : Nat → Int32) (t : Nat) : Prop := t < b ∧ sg t = 1 ∧ ∀ i, i < pc_n sc t → pl (t * 4 + i) = tt t
def pq_mem (ca st sc ky pl : Nat → Int32) (L : Nat → List (Int32 × Int32)) (k : Nat) (r a : Int32) : Prop :=
  r ≤ ca k ∧ (∀ t i, pc_hit st sc ky pl (nI k) t i → r < pl (t * 4 + i)) ∧ (L k).foldl (pc_rd r) (-9) = a
def pq_J (b : Nat) (ca tt st al sg sc ky pl : Nat → Int32) (L : Nat → List (Int32 × Int32)) : Prop :=
  (∃ w, pc_Inv b 8 w ca tt st al sg sc ky pl L) ∧ (∀ i, ca i ≤ 1000000) ∧ (∀ t, tt t ≤ 1000000) ∧ (∀ t, t < b → 1 ≤ tt t) ∧
  (∀ q p, p ∈ L q → p.1 ≤ 1000000) ∧ (∀ t, t < b → st t = 1 → sg t = 0) ∧ (∀ t, t < b → st t = 2 → sg t = 1) ∧
  (∀ t, t < b → st t = 3 → pq_imp b tt sg sc pl t) ∧ (∀ t, t < b → st t = 4 → ¬ pq_imp b tt sg sc pl t) ∧
  (∀ k t i s j, pc_hit st sc ky pl k t i → pc_hit st sc ky pl k s j → t = s)
/-- from one state to the next nothing that a reader saw and no implicit commit is lost -/
def pq_go (b : Nat) (ca tt st sg sc ky pl : Nat → Int32) (L : Nat → List (Int32 × Int32)) (b' : Nat) (ca' tt' st' sg' sc' ky' pl' : Nat → Int32) (L' : Nat → List (Int32 × Int32)) : Prop :=
  (∀ k r a, k < 16 → pq_mem ca st sc ky pl L k r a → pq_mem ca' st' sc' ky' pl' L' k r a) ∧ (∀ t, pq_imp b tt sg sc pl t → pq_imp b' tt' sg' sc' pl' t)
theorem pq_succ {F : Int32} (h : F ≤ 1000000) : F < F + 1 := by
  rw [Int32.le_iff_toInt_le, show (1000000 : Int32).toInt = 1000000 from by decide] at h
  have h0 := Int32.le_toInt F
  rw [Int32.lt_iff_toInt_lt, Int32.toInt_add, show (1 : Int32).toInt = 1 from by decide]
  have e : (F.toInt + 1).bmod (2 ^ 32) = F.toInt + 1 := Int.bmod_eq_of_le (by omega) (by omega)
  rw [e]
  omega
theorem pq_fl_ge (l : List (Int32 × Int32)) : ∀ f : Int32, f ≤ l.foldl pc_g f := by
  induction l with
  | nil => exact fun f => Int32.le_refl f
  | cons p l ih =>
    intro f
    show f ≤ l.foldl pc_g (pc_g f p)
    refine Int32.le_trans ?_ (ih _)
    show f ≤ (if p.1 ≤ f then f else p.1)
    split
    · exact Int32.le_refl f
    · rename_i z
      exact Int32.le_of_lt (Int32.not_le.mp z)
theorem pq_fl_le {M : Int32} (l : List (Int32 × Int32)) : ∀ f : Int32, (∀ p, p ∈ l → p.1 ≤ M) → f ≤ M → l.foldl pc_g f ≤ M := by
  induction l with
  | nil => exact fun f _ h => h
  | cons p l ih =>
    intro f hl hf
    show l.foldl pc_g (pc_g f p) ≤ M
    refine ih _ (fun p' hp' => hl p' (List.mem_cons_of_mem _ hp')) ?_
    show (if p.1 ≤ f then f else p.1) ≤ M
    split
    · exact hf
    · exact hl p (List.mem_cons_self ..)
theorem pq_und_b {b : Nat} {st sg sc : Nat → Int32} (h8 : ∀ t, b ≤ t → sc t = 0 ∧ sg t = 0 ∧ st t = 0) {t : Nat} (h : pc_und st t) : t < b := by
  rcases Nat.lt_or_ge t b with z | z
  · exact z
  · rcases h with e | e <;> rw [(h8 t z).2.2] at e <;> exact absurd e (by decide)
/-! ### a raised cache -/
theorem pq_cache {b q : Nat} {ca tt st al sg sc ky pl : Nat → Int32} {L : Nat → List (Int32 × Int32)} {x : Int32} (h : pq_J b ca tt st al sg sc ky pl L) (hx : ca q ≤ x) (hm : x ≤ 1000000) :
    pq_J b (upd ca q x) tt st al sg sc ky pl L ∧ pq_go b ca tt st sg sc ky pl L b (upd ca q x) tt st sg sc ky pl L := by
  obtain ⟨⟨w, hI⟩, j1, j2, j3, j4, j5, j6, j7, j8, j9⟩ := h
  have hx0 : ¬ x < 0 := Int32.not_lt.mpr (Int32.le_trans (Int32.not_lt.mp (hI.2.1 q)) hx)
  refine ⟨⟨⟨w, pc_cache hI hx0⟩, pc_uA (fun _ y => y ≤ 1000000) hm (fun j _ => j1 j), j2, j3, j4, j5, j6, j7, j8, j9⟩, fun k r a _ hk => ⟨?_, hk.2.1, hk.2.2⟩, fun t ht => ht⟩
  by_cases e : k = q
  · subst e
    rw [pk_us]
    exact Int32.le_trans hk.1 hx
  · rw [pk_un e]
    exact hk.1
/-! ### begin -/
theorem pq_begin {b : Nat} {ca tt st al sg sc ky pl : Nat → Int32} {L : Nat → List (Int32 × Int32)} {ts : Int32} (h : pq_J b ca tt st al sg sc ky pl L) (hb : b < 8) (h1 : 1 ≤ ts) (h2 : ts ≤ 1000000) :
    pq_J (b + 1) ca (upd tt b ts) (upd st b 1) (upd al b 1) sg sc ky pl L ∧ pq_go b ca tt st sg sc ky pl L (b + 1) ca (upd tt b ts) (upd st b 1) sg sc ky pl L := by
  obtain ⟨⟨w, hI⟩, j1, j2, j3, j4, j5, j6, j7, j8, j9⟩ := h
  have hI' := hI
  obtain ⟨_, _, _, _, _, _, i7, i8, _, _, _, _, _⟩ := hI'
  have n0 : pc_n sc b = 0 := by
    show (sc b).toNatClampNeg = 0
    rw [(i8 b (Nat.le_refl b)).1]
    decide
  have hh : ∀ k t i, pc_hit (upd st b 1) sc ky pl k t i → pc_hit st sc ky pl k t i := by
    intro k t i z
    have e : t ≠ b := by
      intro e
      subst e
      have := z.2.1
      omega
    obtain ⟨z1, z2⟩ := z
    refine ⟨?_, z2⟩
    unfold pc_und at z1
    rw [pk_un e] at z1
    exact z1
  have hi : ∀ t, t < b → (pq_imp (b + 1) (upd tt b ts) sg sc pl t ↔ pq_imp b tt sg sc pl t) := by
    intro t ht
    unfold pq_imp
    rw [pk_un (show t ≠ b by omega)]
    exact ⟨fun z => ⟨ht, z.2⟩, fun z => ⟨by omega, z.2⟩⟩
  refine ⟨⟨⟨w, pc_begin hI hb (Int32.not_lt.mpr (Int32.le_trans (by decide) h1))⟩, j1, pc_uA (fun _ x => x ≤ 1000000) h2 (fun j _ => j2 j), pc_uA (fun t x => t < b + 1 → 1 ≤ x) (fun _ => h1) (fun j e z => j3 j (by omega)), j4, ?_, ?_, ?_, ?_, fun k t i s j z1 z2 => j9 k t i s j (hh k t i z1) (hh k s j z2)⟩, fun k r a _ hk => ⟨hk.1, fun t i z => hk.2.1 t i (hh _ t i z), hk.2.2⟩, fun t z => (hi t z.1).mpr z⟩
  · intro t ht e
    by_cases z : t = b
    · subst z
      exact (i8 t (Nat.le_refl t)).2.1
    · rw [pk_un z] at e
      exact j5 t (by omega) e
  · intro t ht e
    by_cases z : t = b
    · subst z
      rw [pk_us] at e
      exact absurd e (by decide)
    · rw [pk_un z] at e
      exact j6 t (by omega) e
  · intro t ht e
    by_cases z : t = b
    · subst z
      rw [pk_us] at e
      exact absurd e (by decide)
    · rw [pk_un z] at e
      exact (hi t (by omega)).mpr (j7 t (by omega) e)
  · intro t ht e
    by_cases z : t = b
    · subst z
      rw [pk_us] at e
      exact absurd e (by decide)
    · rw [pk_un z] at e
      exact fun y => j8 t (by omega) e ((hi t (by omega)).mp y)
/-! ### addWrite -/
theorem pq_add {b t n q : Nat} {ca tt st al sg sc ky pl : Nat → Int32} {L : Nat → List (Int32 × Int32)} (h : pq_J b ca tt st al sg sc ky pl L) (ht : t < b) (hs : st t = 1) (hn : sc t = nI n) (h4 : n < 4) (hq : q < 16)
    (hk : ∀ i, i < n → ¬ ky (t * 4 + i) = nI q) : pq_J b ca tt st al sg (upd sc t (nI (n + 1))) (upd ky (t * 4 + n) (nI q)) pl L ∧ pq_go b ca tt st sg sc ky pl L b ca tt st sg (upd sc t (nI (n + 1))) (upd ky (t * 4 + n) (nI q)) pl L := by
  obtain ⟨⟨w, hI⟩, j1, j2, j3, j4, j5, j6, j7, j8, j9⟩ := h
  have hI' := hI
  obtain ⟨_, _, _, _, _, _, i7, i8, _, _, i11, _, _⟩ := hI'
  have en : pc_n sc t = n := by
    show (sc t).toNatClampNeg = n
    rw [hn, nI_clamp (by omega)]
  have hh : ∀ k s i, pc_hit st (upd sc t (nI (n + 1))) (upd ky (t * 4 + n) (nI q)) pl k s i → pc_hit st sc ky pl k s i := by
    intro k s i z
    obtain ⟨z1, z2, z3, z4⟩ := z
    by_cases e : s = t
    · subst e
      rw [pc_n_s (by omega)] at z2
      by_cases ei : i = n
      · subst ei
        exact absurd (i11 s i (by omega) h4) z3
      · rw [pk_un (show s * 4 + i ≠ s * 4 + n by omega)] at z4
        exact ⟨z1, by omega, z3, z4⟩
    · rw [pc_n_u e] at z2
      have := (i7 s).1
      rw [pk_un (show s * 4 + i ≠ t * 4 + n by omega)] at z4
      exact ⟨z1, z2, z3, z4⟩
  have sg0 : ¬ sg t = 1 := by rw [j5 t ht hs]; decide
  have hi : ∀ s, pq_imp b tt sg (upd sc t (nI (n + 1))) pl s ↔ pq_imp b tt sg sc pl s := by
    intro s
    by_cases e : s = t
    · subst e
      exact ⟨fun z => absurd z.2.1 sg0, fun z => absurd z.2.1 sg0⟩
    · unfold pq_imp
      rw [pc_n_u e]
  exact ⟨⟨⟨w, pc_add hI ht hn h4 hq hk⟩, j1, j2, j3, j4, j5, j6, fun s z e => (hi s).mpr (j7 s z e), fun s z e y => j8 s z e ((hi s).mp y), fun k t i s j z1 z2 => j9 k t i s j (hh k t i z1) (hh k s j z2)⟩, fun k r a _ hk => ⟨hk.1, fun t i z => hk.2.1 t i (hh _ t i z), hk.2.2⟩, fun s z => (hi s).mpr z⟩
/-! ### stage -/
theorem pq_stage {b t : Nat} {ca tt st al sg sc ky pl : Nat → Int32} {L : Nat → List (Int32 × Int32)} (h : pq_J b ca tt st al sg sc ky pl L) (ht : t < b) (hs : st t = 1) :
    pq_J b ca tt (upd st t 2) al (upd sg t 1) sc ky pl L ∧ pq_go b ca tt st sg sc ky pl L b ca tt (upd st t 2) (upd sg t 1) sc ky pl L := by
  obtain ⟨⟨w, hI⟩, j1, j2, j3, j4, j5, j6, j7, j8, j9⟩ := h
  have hh : ∀ k s i, pc_hit (upd st t 2) sc ky pl k s i → pc_hit st sc ky pl k s i := by
    intro k s i z
    obtain ⟨z1, z2⟩ := z
    refine ⟨?_, z2⟩
    by_cases e : s = t
    · subst e
      exact Or.inl hs
    · unfold pc_und at z1
      rw [pk_un e] at z1
      exact z1
  have sg0 : ¬ sg t = 1 := by rw [j5 t ht hs]; decide
  have hi : ∀ s, s ≠ t → (pq_imp b tt (upd sg t 1) sc pl s ↔ pq_imp b tt sg sc pl s) := by
    intro s e
    unfold pq_imp
    rw [pk_un e]
  refine ⟨⟨⟨w, pc_stage hI ht hs⟩, j1, j2, j3, j4, ?_, ?_, ?_, ?_, fun k t i s j z1 z2 => j9 k t i s j (hh k t i z1) (hh k s j z2)⟩, fun k r a _ hk => ⟨hk.1, fun t i z => hk.2.1 t i (hh _ t i z), hk.2.2⟩, fun s z => (hi s (fun e => by subst e; exact sg0 z.2.1)).mpr z⟩
  · intro s hb e
    by_cases z : s = t
    · subst z
      rw [pk_us] at e
      exact absurd e (by decide)
    · rw [pk_un z] at e ⊢
      exact j5 s hb e
  · intro s hb e
    by_cases z : s = t
    · subst z
      exact pk_us
    · rw [pk_un z] at e ⊢
      exact j6 s hb e
  · intro s hb e
    by_cases z : s = t
    · subst z
      rw [pk_us] at e
      exact absurd e (by decide)
    · rw [pk_un z] at e
      exact (hi s z).mpr (j7 s hb e)
  · intro s hb e
    by_cases z : s = t
    · subst z
      rw [pk_us] at e
      exact absurd e (by decide)
    · rw [pk_un z] at e
      exact fun y => j8 s hb e ((hi s z).mp y)
/-! ### deliver -/
theorem pq_deliver {b t i n q : Nat} {ca tt st al sg sc ky pl : Nat → Int32} {L : Nat → List (Int32 × Int32)} {x : Int32} (h : pq_J b ca tt st al sg sc ky pl L) (ht : t < b) (hu : pc_und st t) (hn : sc t = nI n) (h4n : n ≤ 4) (hi : i < n)
    (h0 : pl (t * 4 + i) = 0) (hq : q < 16) (hk : ky (t * 4 + i) = nI q) (hno : ∀ s, s < b → ∀ j, ¬ pc_hit st sc ky pl (nI q) s j) (hx : (L q).foldl pc_g (ca q) < x) :
    pq_J b ca tt st al sg sc ky (upd pl (t * 4 + i) x) L ∧ pq_go b ca tt st sg sc ky pl L b ca tt st sg sc ky (upd pl (t * 4 + i) x) L := by
  obtain ⟨⟨w, hI⟩, j1, j2, j3, j4, j5, j6, j7, j8, j9⟩ := h
  have hI' := hI
  obtain ⟨_, _, _, _, _, _, i7, i8, _, _, _, _, _⟩ := hI'
  have en : pc_n sc t = n := by
    show (sc t).toNatClampNeg = n
    rw [hn, nI_clamp (by omega)]
  have hh : ∀ k s j, pc_hit st sc ky (upd pl (t * 4 + i) x) k s j → (s * 4 + j = t * 4 + i ∧ k = nI q ∧ s = t) ∨ (s * 4 + j ≠ t * 4 + i ∧ pc_hit st sc ky pl k s j) := by
    intro k s j z
    obtain ⟨z1, z2, z3, z4⟩ := z
    have := (i7 s).1
    by_cases e : s * 4 + j = t * 4 + i
    · refine Or.inl ⟨e, ?_, by omega⟩
      rw [e, hk] at z4
      exact z4.symm
    · rw [pk_un e] at z3
      exact Or.inr ⟨e, z1, z2, z3, z4⟩
  have him : ∀ s, s ≠ t → (pq_imp b tt sg sc (upd pl (t * 4 + i) x) s ↔ pq_imp b tt sg sc pl s) := by
    intro s e
    have := (i7 s).1
    exact ⟨fun z => ⟨z.1, z.2.1, fun j hj => by have y := z.2.2 j hj; rw [pk_un (show s * 4 + j ≠ t * 4 + i by omega)] at y; exact y⟩, fun z => ⟨z.1, z.2.1, fun j hj => by rw [pk_un (show s * 4 + j ≠ t * 4 + i by omega)]; exact z.2.2 j hj⟩⟩
  have hnt : ¬ pq_imp b tt sg sc pl t := by
    intro z
    have y := z.2.2 i (by omega)
    rw [h0] at y
    have y2 := j3 t ht
    rw [← y] at y2
    exact absurd y2 (by decide)
  have st3 : ∀ v : Int32, st t = v → v ≠ 3 ∧ v ≠ 4 := by
    intro v e
    rcases hu with z | z <;> rw [z] at e <;> subst e <;> decide
  refine ⟨⟨⟨w, pc_deliver hI hn h4n hi⟩, j1, j2, j3, j4, j5, j6, fun s hb e => (him s (fun z => by subst z; exact (st3 _ e).1 rfl)).mpr (j7 s hb e), fun s hb e y => j8 s hb e ((him s (fun z => by subst z; exact (st3 _ e).2 rfl)).mp y), ?_⟩, ?_, fun s z => (him s (fun e => by subst e; exact hnt z)).mpr z⟩
  · intro k s j s' j' z1 z2
    rcases hh k s j z1 with ⟨a1, a2, a3⟩ | ⟨a1, a2⟩
    · rcases hh k s' j' z2 with ⟨c1, c2, c3⟩ | ⟨c1, c2⟩
      · rw [a3, c3]
      · subst a2
        exact absurd c2 (hno s' (pq_und_b i8 c2.1) j')
    · rcases hh k s' j' z2 with ⟨c1, c2, c3⟩ | ⟨c1, c2⟩
      · subst c2
        exact absurd a2 (hno s (pq_und_b i8 a2.1) j)
      · exact j9 k s j s' j' a2 c2
  · intro k r a hk16 hm
    refine ⟨hm.1, fun s j z => ?_, hm.2.2⟩
    rcases hh (nI k) s j z with ⟨a1, a2, a3⟩ | ⟨a1, a2⟩
    · rw [a1, pk_us]
      have ek : k = q := (nI_eq (by omega) (by omega)).mp a2
      subst ek
      exact Int32.lt_of_le_of_lt (Int32.le_trans hm.1 (pq_fl_ge _ _)) hx
    · rw [pk_un a1]
      exact hm.2.1 s j a2
end
section
/-! ### abort -/
theorem pq_hit_dec {t : Nat} {st sc ky pl : Nat → Int32} {x : Int32} (hx : ¬ x = 1 ∧ ¬ x = 2) {k : Int32} {s i : Nat} (z : pc_hit (upd st t x) sc ky pl k s i) : s ≠ t ∧ pc_hit st sc ky pl k s i := by
  obtain ⟨z1, z2⟩ := z
  unfold pc_und at z1
  by_cases e : s = t
  · subst e
    rw [pk_us] at z1
    rcases z1 with y | y
    · exact absurd y hx.1
    · exact absurd y hx.2
  · rw [pk_un e] at z1
    exact ⟨e, z1, z2⟩
theorem pq_abort {b t : Nat} {ca tt st al sg sc ky pl : Nat → Int32} {L : Nat → List (Int32 × Int32)} (h : pq_J b ca tt st al sg sc ky pl L) (ht : t < b) (hs : ¬ st t = 3) (hn : ¬ pq_imp b tt sg sc pl t) :
    pq_J b ca tt (upd st t 4) al sg sc ky pl L ∧ pq_go b ca tt st sg sc ky pl L b ca tt (upd st t 4) sg sc ky pl L := by
  obtain ⟨⟨w, hI⟩, j1, j2, j3, j4, j5, j6, j7, j8, j9⟩ := h
  have hh : ∀ k s i, pc_hit (upd st t 4) sc ky pl k s i → pc_hit st sc ky pl k s i := fun k s i z => (pq_hit_dec (by decide) z).2
  refine ⟨⟨⟨w, pc_abort hI ht hs⟩, j1, j2, j3, j4, ?_, ?_, ?_, ?_, fun k t i s j z1 z2 => j9 k t i s j (hh k t i z1) (hh k s j z2)⟩, fun k r a _ hk => ⟨hk.1, fun t i z => hk.2.1 t i (hh _ t i z), hk.2.2⟩, fun s z => z⟩
  · intro s hb e
    by_cases z : s = t
    · subst z
      rw [pk_us] at e
      exact absurd e (by decide)
    · rw [pk_un z] at e
      exact j5 s hb e
  · intro s hb e
    by_cases z : s = t
    · subst z
      rw [pk_us] at e
      exact absurd e (by decide)
    · rw [pk_un z] at e
      exact j6 s hb e
  · intro s hb e
    by_cases z : s = t
    · subst z
      rw [pk_us] at e
      exact absurd e (by decide)
    · rw [pk_un z] at e
      exact j7 s hb e
  · intro s hb e
    by_cases z : s = t
    · subst z
      exact hn
    · rw [pk_un z] at e
      exact j8 s hb e
/-! ### commit -/
theorem pq_cm_mem {key val : Nat → Int32} {ts M : Int32} {c : Nat} {L : Nat → List (Int32 × Int32)} (hL : ∀ q p, p ∈ L q → p.1 ≤ M) (hM : ts ≤ M) : ∀ i q p, p ∈ pc_cm key val ts c L i q → p.1 ≤ M := by
  intro i
  induction i with
  | zero => exact hL
  | succ i ih =>
    intro q p hp
    have hp' : p ∈ (if key (c + i) = nI q then pc_cm key val ts c L i q ++ [(ts, val (c + i))] else pc_cm key val ts c L i q) := hp
    split at hp'
    · rcases List.mem_append.mp hp' with z | z
      · exact ih q p z
      · rw [List.mem_singleton.mp z]
        exact hM
    · exact ih q p hp'
theorem pq_cm_rd {key val : Nat → Int32} {ts r a : Int32} {c q : Nat} {L : Nat → List (Int32 × Int32)} : ∀ i, (∀ j, j < i → key (c + j) = nI q → r < ts) → (pc_cm key val ts c L i q).foldl (pc_rd r) a = (L q).foldl (pc_rd r) a := by
  intro i
  induction i with
  | zero => intro _; rfl
  | succ i ih =>
    intro h
    show (if key (c + i) = nI q then pc_cm key val ts c L i q ++ [(ts, val (c + i))] else pc_cm key val ts c L i q).foldl (pc_rd r) a = _
    split
    · rename_i e
      rw [List.foldl_append, ih (fun j hj => h j (by omega))]
      show (if r < ts then (L q).foldl (pc_rd r) a else val (c + i)) = _
      rw [if_pos (h i (by omega) e)]
    · exact ih (fun j hj => h j (by omega))
theorem pq_commit {b t n : Nat} {ca tt st al sg sc ky vl pl : Nat → Int32} {L : Nat → List (Int32 × Int32)} (h : pq_J b ca tt st al sg sc ky pl L) (ht : t < b) (hs : st t = 2) (hn : sc t = nI n) (h4n : n ≤ 4) (ha : ∀ i, i < n → pl (t * 4 + i) = tt t) :
    pq_J b ca tt (upd st t 3) al sg sc ky pl (pc_cm ky vl (tt t) (t * 4) L n) ∧ pq_go b ca tt st sg sc ky pl L b ca tt (upd st t 3) sg sc ky pl (pc_cm ky vl (tt t) (t * 4) L n) := by
  obtain ⟨⟨w, hI⟩, j1, j2, j3, j4, j5, j6, j7, j8, j9⟩ := h
  have en : pc_n sc t = n := by
    show (sc t).toNatClampNeg = n
    rw [hn, nI_clamp (by omega)]
  have hh : ∀ k s i, pc_hit (upd st t 3) sc ky pl k s i → pc_hit st sc ky pl k s i := fun k s i z => (pq_hit_dec (by decide) z).2
  have h3 : ¬ st t = 3 := by rw [hs]; decide
  have him : pq_imp b tt sg sc pl t := ⟨ht, j6 t ht hs, fun i hi => ha i (by omega)⟩
  refine ⟨⟨⟨w + n, pc_commit hI ht h3 hn h4n⟩, j1, j2, j3, pq_cm_mem j4 (j2 t) n, ?_, ?_, ?_, ?_, fun k t i s j z1 z2 => j9 k t i s j (hh k t i z1) (hh k s j z2)⟩, fun k r a _ hk => ⟨hk.1, fun t i z => hk.2.1 t i (hh _ t i z), ?_⟩, fun s z => z⟩
  · intro s hb e
    by_cases z : s = t
    · subst z
      rw [pk_us] at e
      exact absurd e (by decide)
    · rw [pk_un z] at e
      exact j5 s hb e
  · intro s hb e
    by_cases z : s = t
    · subst z
      rw [pk_us] at e
      exact absurd e (by decide)
    · rw [pk_un z] at e
      exact j6 s hb e
  · intro s hb e
    by_cases z : s = t
    · subst z
      exact him
    · rw [pk_un z] at e
      exact j7 s hb e
  · intro s hb e
    by_cases z : s = t
    · subst z
      rw [pk_us] at e
      exact absurd e (by decide)
    · rw [pk_un z] at e
      exact j8 s hb e
  · rw [pq_cm_rd n (fun j hj e => ?_)]
    · exact hk.2.2
    · have hp : ¬ pl (t * 4 + j) = 0 := by
        rw [ha j hj]
        intro y
        have y2 := j3 t ht
        rw [y] at y2
        exact absurd y2 (by decide)
      have y := hk.2.1 t j ⟨Or.inr hs, by omega, hp, e⟩
      rw [ha j hj] at y
      exact y
/-! ### crash -/
theorem pq_crash {b t : Nat} {ca tt st al sg sc ky pl : Nat → Int32} {L : Nat → List (Int32 × Int32)} (h : pq_J b ca tt st al sg sc ky pl L) :
    pq_J b ca tt st (upd al t 0) sg sc ky pl L := by
  obtain ⟨⟨w, hI⟩, j1, j2, j3, j4, j5, j6, j7, j8, j9⟩ := h
  exact ⟨⟨w, pc_crash hI⟩, j1, j2, j3, j4, j5, j6, j7, j8, j9⟩
theorem pq_go_refl (b : Nat) (ca tt st sg sc ky pl : Nat → Int32) (L : Nat → List (Int32 × Int32)) : pq_go b ca tt st sg sc ky pl L b ca tt st sg sc ky pl L := ⟨fun _ _ _ _ h => h, fun _ h => h⟩
theorem pq_go_trans {b b' b'' : Nat} {ca tt st sg sc ky pl ca' tt' st' sg' sc' ky' pl' ca'' tt'' st'' sg'' sc'' ky'' pl'' : Nat → Int32} {L L' L'' : Nat → List (Int32 × Int32)}
    (h : pq_go b ca tt st sg sc ky pl L b' ca' tt' st' sg' sc' ky' pl' L') (h' : pq_go b' ca' tt' st' sg' sc' ky' pl' L' b'' ca'' tt'' st'' sg'' sc'' ky'' pl'' L'') :
    pq_go b ca tt st sg sc ky pl L b'' ca'' tt'' st'' sg'' sc'' ky'' pl'' L'' := ⟨fun k r a hk z => h'.1 k r a hk (h.1 k r a hk z), fun t z => h'.2 t (h.2 t z)⟩
end
section
/-! ## bits (rows to paste of the kit) -/
def bt (x : Int32) (i : Nat) : Bool := x.toBitVec.getLsbD i
theorem b_ext {x y : Int32} (h : ∀ i, i < 32 → bt x i = bt y i) : x = y := Int32.toBitVec_inj.mp (BitVec.eq_of_getLsbD_eq (fun i hi => h i hi))
theorem b_or (x y : Int32) (i : Nat) : bt (x ||| y) i = (bt x i || bt y i) := by unfold bt; rw [Int32.toBitVec_or, BitVec.getLsbD_or]
theorem b_and (x y : Int32) (i : Nat) : bt (x &&& y) i = (bt x i && bt y i) := by unfold bt; rw [Int32.toBitVec_and, BitVec.getLsbD_and]
theorem b_big {x : Int32} {i : Nat} (h : 32 ≤ i) : bt x i = false := BitVec.getLsbD_of_ge _ _ h
theorem b_0 (i : Nat) : bt 0 i = false := BitVec.getLsbD_zero
theorem s_l : ∀ n, n < 32 → ((nI n &&& 31).toBitVec.smod 32).toNat = n := by decide +kernel
theorem b_shl (n : Nat) (hn : n < 32) (x : Int32) {i : Nat} (hi : i < 32) : bt (x <<< (nI n &&& 31)) i = (decide (n ≤ i) && bt x (i - n)) := by
  unfold bt
  rw [Int32.toBitVec_shiftLeft]
  show (x.toBitVec <<< ((nI n &&& 31).toBitVec.smod 32).toNat).getLsbD i = _
  rw [s_l n hn, BitVec.getLsbD_shiftLeft]
  rcases Nat.lt_or_ge i n with h | h
  · simp [h, Nat.not_le.mpr h]
  · simp [hi, h, Nat.not_lt.mpr h]
theorem b_sshr (n : Nat) (hn : n < 32) (x : Int32) {i : Nat} (hi : i < 32) : bt (x >>> (nI n &&& 31)) i = if n + i < 32 then bt x (n + i) else bt x 31 := by
  unfold bt
  rw [Int32.toBitVec_shiftRight]
  show (x.toBitVec.sshiftRight ((nI n &&& 31).toBitVec.smod 32).toNat).getLsbD i = _
  rw [s_l n hn, BitVec.getLsbD_sshiftRight, BitVec.msb_eq_getLsbD_last]
  simp [hi]
theorem wb_tb (n : Nat) : (lN n).toBitVec = BitVec.ofNat 64 n := rfl
theorem wb_inj {a b : Int64} (h : a.toBitVec = b.toBitVec) : a = b := Int64.toBitVec_inj.mp h
theorem wb_tn {n : Nat} (h : n < 2 ^ 64) : (lN n).toBitVec.toNat = n := by rw [wb_tb, BitVec.toNat_ofNat, Nat.mod_eq_of_lt h]
theorem wb_of (x : Int64) : ∃ n, n < 2 ^ 64 ∧ x = lN n := ⟨x.toBitVec.toNat, x.toBitVec.isLt, wb_inj (by rw [wb_tb]; simp)⟩
theorem wb_c : ∀ k, k < 64 → ((nI k).toInt64 &&& 63) = lN k := by decide +kernel
theorem wb_cu : ∀ k, k < 64 → ((nI k).toInt64.toUInt64 &&& Int64.toUInt64 63) = UInt64.ofNat k := by decide +kernel
theorem wb_sm : ∀ k, k < 64 → (BitVec.ofNat 64 k).smod 64 = BitVec.ofNat 64 k := by decide +kernel
theorem wb_lt2 {a b : Nat} (h : a < b) : 2 ^ a < 2 ^ b := Nat.pow_lt_pow_right (by decide) h
theorem wb_shr {n k : Nat} (hn : n < 2 ^ 64) (hk : k < 64) : ((lN n).toUInt64 >>> ((nI k).toInt64.toUInt64 &&& Int64.toUInt64 63)).toInt64 = lN (n / 2 ^ k) := by
  rw [wb_cu k hk]
  apply wb_inj
  apply BitVec.eq_of_toNat_eq
  show ((lN n).toUInt64 >>> UInt64.ofNat k).toNat = (BitVec.ofNat 64 _).toNat
  have h1 : (UInt64.ofNat k).toNat = k := by
    show (BitVec.ofNat 64 k).toNat = k
    rw [BitVec.toNat_ofNat, Nat.mod_eq_of_lt (by omega)]
  have h2 : (lN n).toUInt64.toNat = n := wb_tn hn
  rw [UInt64.toNat_shiftRight, h1, h2, Nat.mod_eq_of_lt hk, Nat.shiftRight_eq_div_pow, BitVec.toNat_ofNat, Nat.mod_eq_of_lt (Nat.lt_of_le_of_lt (Nat.div_le_self _ _) hn)]
theorem wb_shl (n : Nat) {k : Nat} (hk : k < 64) : lN n <<< ((nI k).toInt64 &&& 63) = lN (n * 2 ^ k) := by
  rw [wb_c k hk]
  apply wb_inj
  rw [Int64.toBitVec_shiftLeft, wb_tb, wb_tb, wb_tb, wb_sm k hk]
  apply BitVec.eq_of_toNat_eq
  rw [BitVec.shiftLeft_eq', BitVec.toNat_shiftLeft, BitVec.toNat_ofNat, BitVec.toNat_ofNat, BitVec.toNat_ofNat, Nat.mod_eq_of_lt (show k < 2 ^ 64 by omega), Nat.shiftLeft_eq, Nat.mul_mod, Nat.mod_mod, ← Nat.mul_mod]
theorem wb_and {a b : Nat} (ha : a < 2 ^ 64) (hb : b < 2 ^ 64) : lN a &&& lN b = lN (a &&& b) := by
  apply wb_inj
  rw [Int64.toBitVec_and, wb_tb, wb_tb, wb_tb]
  apply BitVec.eq_of_toNat_eq
  rw [BitVec.toNat_and, BitVec.toNat_ofNat, BitVec.toNat_ofNat, BitVec.toNat_ofNat, Nat.mod_eq_of_lt ha, Nat.mod_eq_of_lt hb, Nat.mod_eq_of_lt (Nat.and_lt_two_pow _ hb)]
theorem wb_mask {n k : Nat} (hn : n < 2 ^ 64) (hk : k < 64) : lN n &&& lN (2 ^ k - 1) = lN (n % 2 ^ k) := by
  rw [wb_and hn (by have := wb_lt2 hk; omega), Nat.and_two_pow_sub_one_eq_mod]
/-! ## the law's memory: nibbles in four longs -/
def pq_nb (x : Int64) (j : Nat) : Nat := x.toBitVec.toNat / 2 ^ (4 * j) % 16
theorem pq_nb_lt (x : Int64) (j : Nat) : pq_nb x j < 16 := Nat.mod_lt _ (by decide)
theorem pq_nb_0 (j : Nat) : pq_nb 0 j = 0 := by
  show (0 : Int64).toBitVec.toNat / 2 ^ (4 * j) % 16 = 0
  rw [show (0 : Int64).toBitVec.toNat = 0 from by decide, Nat.zero_div]
theorem pq_nb_tb (x : Int64) (j i : Nat) : (pq_nb x j).testBit i = (decide (i < 4) && x.toBitVec.toNat.testBit (4 * j + i)) := by
  show (x.toBitVec.toNat / 2 ^ (4 * j) % 2 ^ 4).testBit i = _
  rw [Nat.testBit_mod_two_pow, Nat.testBit_div_two_pow, Nat.add_comm]
theorem pq_nib (x : Int64) {j : Nat} (hj : j < 16) : ((x.toUInt64 >>> ((nI (4 * j)).toInt64.toUInt64 &&& Int64.toUInt64 63)).toInt64 &&& 15).toInt32 = nI (pq_nb x j) := by
  obtain ⟨n, hn, rfl⟩ := wb_of x
  rw [wb_shr hn (by omega), show (15 : Int64) = lN (2 ^ 4 - 1) from by decide +kernel, wb_mask (Nat.lt_of_le_of_lt (Nat.div_le_self _ _) hn) (by decide), lN_i]
  show nI _ = nI ((lN n).toBitVec.toNat / 2 ^ (4 * j) % 16)
  rw [wb_tn hn]
def pq_put (x : Int64) (j c : Nat) : Int64 := (x &&& ((15 <<< ((nI (4 * j)).toInt64 &&& 63)) ^^^ (-1))) ||| (lN c <<< ((nI (4 * j)).toInt64 &&& 63))
theorem pq_put_bit (x : Int64) {j c : Nat} (hj : j < 16) (hc : c < 16) {p : Nat} (hp : p < 64) : (pq_put x j c).toBitVec.toNat.testBit p = ((x.toBitVec.toNat.testBit p && !(decide (4 * j ≤ p) && decide (p - 4 * j < 4))) || (decide (4 * j ≤ p) && c.testBit (p - 4 * j))) := by
  have e15 : (15 : Int64) = lN 15 := by decide +kernel
  unfold pq_put
  rw [e15, wb_shl 15 (by omega), wb_shl c (by omega)]
  show ((x &&& (lN (15 * 2 ^ (4 * j)) ^^^ (-1))) ||| lN (c * 2 ^ (4 * j))).toBitVec.getLsbD p = _
  rw [Int64.toBitVec_or, Int64.toBitVec_and, Int64.toBitVec_xor, BitVec.getLsbD_or, BitVec.getLsbD_and, BitVec.getLsbD_xor, wb_tb, wb_tb, BitVec.getLsbD_ofNat, BitVec.getLsbD_ofNat, ← Nat.shiftLeft_eq, ← Nat.shiftLeft_eq, Nat.testBit_shiftLeft, Nat.testBit_shiftLeft]
  have em : (-1 : Int64).toBitVec.getLsbD p = true := by
    rw [show (-1 : Int64).toBitVec = BitVec.allOnes 64 from by decide, BitVec.getLsbD_allOnes, decide_eq_true hp]
  have e15b : ∀ i, (15 : Nat).testBit i = decide (i < 4) := by
    intro i
    rw [show (15 : Nat) = 2 ^ 4 - 1 from rfl, Nat.testBit_two_pow_sub_one]
  rw [em, e15b, decide_eq_true hp]
  simp [BitVec.testBit_toNat]
theorem pq_nb_put (x : Int64) {j c : Nat} (hj : j < 16) (hc : c < 16) (i : Nat) (hi : i < 16) : pq_nb (pq_put x j c) i = if i = j then c else pq_nb x i := by
  apply Nat.eq_of_testBit_eq
  intro p
  rw [pq_nb_tb]
  by_cases h4 : p < 4
  · rw [pq_put_bit x hj hc (by omega), decide_eq_true h4, Bool.true_and]
    by_cases e : i = j
    · subst e
      rw [if_pos rfl, show 4 * i + p - 4 * i = p by omega, decide_eq_true h4, decide_eq_true (show 4 * i ≤ 4 * i + p by omega)]
      simp
    · rw [if_neg e, pq_nb_tb, decide_eq_true h4, Bool.true_and]
      by_cases l : 4 * j ≤ 4 * i + p
      · have c0 : c.testBit (4 * i + p - 4 * j) = false := Nat.testBit_lt_two_pow (Nat.lt_of_lt_of_le hc (Nat.pow_le_pow_right (n := 2) (i := 4) (by decide) (by omega)))
        rw [c0, decide_eq_true l, decide_eq_false (show ¬ 4 * i + p - 4 * j < 4 by omega)]
        simp
      · rw [decide_eq_false l]
        simp
  · rw [decide_eq_false h4, Bool.false_and]
    by_cases e : i = j
    · rw [if_pos e]
      exact (Nat.testBit_lt_two_pow (Nat.lt_of_lt_of_le hc (Nat.pow_le_pow_right (n := 2) (i := 4) (by decide) (by omega)))).symm
    · rw [if_neg e, pq_nb_tb, decide_eq_false h4, Bool.false_and]
end
section
/-! ## every call keeps what was seen and what is committed: the state, what readers saw (M), the implicitly committed (P) -/
def pq_K (M : Nat → Int32 → Int32 → Prop) (P : Nat → Prop) (u : St1) : Prop := ∃ (b : Nat) (ca vc vt vv tt st al sg sc ky vl pl : Nat → Int32) (L : Nat → List (Int32 × Int32)),
  u = (nI 8, nI b, ca, vc, vt, vv, tt, st, al, sg, sc, ky, vl, pl) ∧ pq_J b ca tt st al sg sc ky pl L ∧ pc_XV vc vt vv L ∧ (∀ k r a, k < 16 → M k r a → pq_mem ca st sc ky pl L k r a) ∧ (∀ t, P t → pq_imp b tt sg sc pl t)
theorem pq_ra {b q : Nat} {ca tt st al sg sc ky pl : Nat → Int32} {L : Nat → List (Int32 × Int32)} {x : Int32} (h : pq_J b ca tt st al sg sc ky pl L) (hm : x ≤ 1000000) :
    pq_J b (pc_ra ca q x) tt st al sg sc ky pl L ∧ pq_go b ca tt st sg sc ky pl L b (pc_ra ca q x) tt st sg sc ky pl L := by
  unfold pc_ra
  split
  · exact ⟨h, pq_go_refl ..⟩
  · rename_i z
    exact pq_cache h (Int32.le_of_lt (Int32.not_le.mp z)) hm
theorem pq_pv {b c : Nat} {ca tt st al sg sc ky pl : Nat → Int32} {L : Nat → List (Int32 × Int32)} {x : Int32} (h : pq_J b ca tt st al sg sc ky pl L) (hm : x ≤ 1000000) (i : Nat) :
    pq_J b (pc_pv ca ky pl x c i) tt st al sg sc ky pl L ∧ pq_go b ca tt st sg sc ky pl L b (pc_pv ca ky pl x c i) tt st sg sc ky pl L := by
  induction i with
  | zero => exact ⟨h, pq_go_refl ..⟩
  | succ i ih =>
    show pq_J b (if pl (c + i) = 0 then pc_ra (pc_pv ca ky pl x c i) (ky (c + i)).toNatClampNeg x else pc_pv ca ky pl x c i) tt st al sg sc ky pl L ∧ pq_go b ca tt st sg sc ky pl L b (if pl (c + i) = 0 then pc_ra (pc_pv ca ky pl x c i) (ky (c + i)).toNatClampNeg x else pc_pv ca ky pl x c i) tt st sg sc ky pl L
    split
    · have a := pq_ra (q := (ky (c + i)).toNatClampNeg) ih.1 hm
      exact ⟨a.1, pq_go_trans ih.2 a.2⟩
    · exact ih
theorem po_begin {M : Nat → Int32 → Int32 → Prop} {P : Nat → Prop} {u : St1} {post : Int32 → St1 → Prop} (h : pq_K M P u) (x : Int32) (hp : ∀ r u', pq_K M P u' → post r u') : wpX_begin post u x := by
  obtain ⟨b, ca, vc, vt, vv, tt, st, al, sg, sc, ky, vl, pl, L, rfl, hJ, hX, hM, hP⟩ := h
  have R : ∀ r, post r (nI 8, nI b, ca, vc, vt, vv, tt, st, al, sg, sc, ky, vl, pl) := fun r => hp r _ ⟨_, _, _, _, _, _, _, _, _, _, _, _, _, _, rfl, hJ, hX, hM, hP⟩
  obtain ⟨⟨w, ⟨i1, i1'⟩, i2, i3, i4, i5, i6, i7, i8, i9, i10, i11, i12, i13⟩, j1, j2, j3, j4, j5, j6, j7, j8, j9⟩ := id hJ
  by_cases h1 : x < 1
  · simp only [wpX_begin, wpX_isTimestamp, h1, true_implies, false_implies, not_true_eq_false, not_false_eq_true, and_true, true_and, and_self, forall_eq, pc_d1, pc_dm1, pc_dm2, pc_dm3]
    exact R _
  · by_cases h2 : 1000000 < x
    · simp only [wpX_begin, wpX_isTimestamp, h1, h2, true_implies, false_implies, not_true_eq_false, not_false_eq_true, and_true, true_and, and_self, forall_eq, pc_d1, pc_dm1, pc_dm2, pc_dm3]
      exact R _
    · by_cases h4 : b < 8
      · have c1 : nI b < nI 8 := nI_lt h4 (by omega)
        have c4 : vp_in (nI b) 8 := vp_in_nI (by omega) (by omega)
        have c5 : (nI b).toNatClampNeg = b := nI_clamp (by omega)
        simp only [wpX_begin, wpX_isTimestamp, h1, h2, c1, c4, c5, nI_1, true_implies, false_implies, not_true_eq_false, not_false_eq_true, and_true, true_and, and_self, forall_eq, pc_d1, pc_dm1, pc_dm2, pc_dm3]
        have e := pq_begin (ts := x) hJ h4 (Int32.not_lt.mp h1) (Int32.not_lt.mp h2)
        exact hp _ _ ⟨_, _, _, _, _, _, _, _, _, _, _, _, _, _, rfl, e.1, hX, fun k r a hk z => e.2.1 k r a hk (hM k r a hk z), fun t z => e.2.2 t (hP t z)⟩
      · have c1 : ¬ nI b < nI 8 := nI_nlt (by omega) (by omega)
        simp only [wpX_begin, wpX_isTimestamp, h1, h2, c1, true_implies, false_implies, not_true_eq_false, not_false_eq_true, and_true, true_and, and_self, forall_eq, pc_d1, pc_dm1, pc_dm2, pc_dm3]
        exact R _
theorem po_stage {M : Nat → Int32 → Int32 → Prop} {P : Nat → Prop} {u : St1} {post : Int32 → St1 → Prop} (h : pq_K M P u) (x : Int32) (hp : ∀ r u', pq_K M P u' → post r u') : wpX_stage post u x := by
  obtain ⟨b, ca, vc, vt, vv, tt, st, al, sg, sc, ky, vl, pl, L, rfl, hJ, hX, hM, hP⟩ := h
  have R : ∀ r, post r (nI 8, nI b, ca, vc, vt, vv, tt, st, al, sg, sc, ky, vl, pl) := fun r => hp r _ ⟨_, _, _, _, _, _, _, _, _, _, _, _, _, _, rfl, hJ, hX, hM, hP⟩
  obtain ⟨⟨w, ⟨i1, i1'⟩, i2, i3, i4, i5, i6, i7, i8, i9, i10, i11, i12, i13⟩, j1, j2, j3, j4, j5, j6, j7, j8, j9⟩ := id hJ
  rcases pc_ix x b (by omega) with ⟨h, h'⟩ | ⟨h1, h2, h3, h4⟩ | ⟨t, ht, rfl⟩
  · simp only [wpX_stage, wpX_coordinatorRefusal, wpX_isTxn, h, true_implies, false_implies, not_true_eq_false, not_false_eq_true, and_true, true_and, and_self, forall_eq, pc_d1, pc_dm1, pc_dm2, pc_dm3]
    exact R _
  · simp only [wpX_stage, wpX_coordinatorRefusal, wpX_isTxn, h1, h4, true_implies, false_implies, not_true_eq_false, not_false_eq_true, and_true, true_and, and_self, forall_eq, pc_d1, pc_dm1, pc_dm2, pc_dm3]
    exact R _
  · have ht8 : t < 8 := by omega
    have et : (nI t).toNatClampNeg = t := nI_clamp (by omega)
    have vt8 : vp_in (nI t) 8 := vp_in_nI ht8 (by omega)
    have f1 : ¬ nI t < 0 := nI_pos (by omega)
    have f2 : ¬ nI b ≤ nI t := nI_ge ht (by omega)
    by_cases hs : st t = 1
    · by_cases ha : al t = 0
      · simp only [wpX_stage, wpX_coordinatorRefusal, wpX_isTxn, f1, f2, et, vt8, hs, ha, true_implies, false_implies, not_true_eq_false, not_false_eq_true, and_true, true_and, and_self, forall_eq, pc_d1, pc_dm1, pc_dm2, pc_dm3]
        exact R _
      · by_cases hn : sc t = 0
        · simp only [wpX_stage, wpX_coordinatorRefusal, wpX_isTxn, f1, f2, et, vt8, hs, ha, hn, true_implies, false_implies, not_true_eq_false, not_false_eq_true, and_true, true_and, and_self, forall_eq, pc_d1, pc_dm1, pc_dm2, pc_dm3]
          exact R _
        · simp only [wpX_stage, wpX_coordinatorRefusal, wpX_isTxn, f1, f2, et, vt8, hs, ha, hn, true_implies, false_implies, not_true_eq_false, not_false_eq_true, and_true, true_and, and_self, forall_eq, pc_d1, pc_dm1, pc_dm2, pc_dm3]
          have e := pq_stage hJ ht hs
          exact hp _ _ ⟨_, _, _, _, _, _, _, _, _, _, _, _, _, _, rfl, e.1, hX, fun k r a hk z => e.2.1 k r a hk (hM k r a hk z), fun t z => e.2.2 t (hP t z)⟩
    · simp only [wpX_stage, wpX_coordinatorRefusal, wpX_isTxn, f1, f2, et, vt8, hs, true_implies, false_implies, not_true_eq_false, not_false_eq_true, and_true, true_and, and_self, forall_eq, pc_d1, pc_dm1, pc_dm2, pc_dm3]
      exact R _
theorem po_rollback {M : Nat → Int32 → Int32 → Prop} {P : Nat → Prop} {u : St1} {post : Int32 → St1 → Prop} (h : pq_K M P u) (x : Int32) (hp : ∀ r u', pq_K M P u' → post r u') : wpX_rollback post u x := by
  obtain ⟨b, ca, vc, vt, vv, tt, st, al, sg, sc, ky, vl, pl, L, rfl, hJ, hX, hM, hP⟩ := h
  have R : ∀ r, post r (nI 8, nI b, ca, vc, vt, vv, tt, st, al, sg, sc, ky, vl, pl) := fun r => hp r _ ⟨_, _, _, _, _, _, _, _, _, _, _, _, _, _, rfl, hJ, hX, hM, hP⟩
  obtain ⟨⟨w, ⟨i1, i1'⟩, i2, i3, i4, i5, i6, i7, i8, i9, i10, i11, i12, i13⟩, j1, j2, j3, j4, j5, j6, j7, j8, j9⟩ := id hJ
  rcases pc_ix x b (by omega) with ⟨h, h'⟩ | ⟨h1, h2, h3, h4⟩ | ⟨t, ht, rfl⟩
  · simp only [wpX_rollback, wpX_abort, wpX_coordinatorRefusal, wpX_isTxn, h, true_implies, false_implies, not_true_eq_false, not_false_eq_true, and_true, true_and, and_self, forall_eq, pc_d1, pc_dm1, pc_dm2, pc_dm3]
    exact R _
  · simp only [wpX_rollback, wpX_abort, wpX_coordinatorRefusal, wpX_isTxn, h1, h4, true_implies, false_implies, not_true_eq_false, not_false_eq_true, and_true, true_and, and_self, forall_eq, pc_d1, pc_dm1, pc_dm2, pc_dm3]
    exact R _
  · have ht8 : t < 8 := by omega
    have et : (nI t).toNatClampNeg = t := nI_clamp (by omega)
    have vt8 : vp_in (nI t) 8 := vp_in_nI ht8 (by omega)
    have f1 : ¬ nI t < 0 := nI_pos (by omega)
    have f2 : ¬ nI b ≤ nI t := nI_ge ht (by omega)
    by_cases hs : st t = 1
    · by_cases ha : al t = 0
      · simp only [wpX_rollback, wpX_abort, wpX_coordinatorRefusal, wpX_isTxn, f1, f2, et, vt8, hs, ha, true_implies, false_implies, not_true_eq_false, not_false_eq_true, and_true, true_and, and_self, forall_eq, pc_d1, pc_dm1, pc_dm2, pc_dm3]
        exact R _
      · simp only [wpX_rollback, wpX_abort, wpX_coordinatorRefusal, wpX_isTxn, f1, f2, et, vt8, hs, ha, true_implies, false_implies, not_true_eq_false, not_false_eq_true, and_true, true_and, and_self, forall_eq, pc_d1, pc_dm1, pc_dm2, pc_dm3]
        have e := pq_abort hJ ht (by rw [hs]; decide) (fun z => absurd z.2.1 (by rw [j5 t ht hs]; decide))
        exact hp _ _ ⟨_, _, _, _, _, _, _, _, _, _, _, _, _, _, rfl, e.1, hX, fun k r a hk z => e.2.1 k r a hk (hM k r a hk z), fun t z => e.2.2 t (hP t z)⟩
    · simp only [wpX_rollback, wpX_abort, wpX_coordinatorRefusal, wpX_isTxn, f1, f2, et, vt8, hs, true_implies, false_implies, not_true_eq_false, not_false_eq_true, and_true, true_and, and_self, forall_eq, pc_d1, pc_dm1, pc_dm2, pc_dm3]
      exact R _
theorem po_crash {M : Nat → Int32 → Int32 → Prop} {P : Nat → Prop} {u : St1} {post : Int32 → St1 → Prop} (h : pq_K M P u) (x : Int32) (hp : ∀ r u', pq_K M P u' → post r u') : wpX_crash post u x := by
  obtain ⟨b, ca, vc, vt, vv, tt, st, al, sg, sc, ky, vl, pl, L, rfl, hJ, hX, hM, hP⟩ := h
  have R : ∀ r, post r (nI 8, nI b, ca, vc, vt, vv, tt, st, al, sg, sc, ky, vl, pl) := fun r => hp r _ ⟨_, _, _, _, _, _, _, _, _, _, _, _, _, _, rfl, hJ, hX, hM, hP⟩
  obtain ⟨⟨w, ⟨i1, i1'⟩, i2, i3, i4, i5, i6, i7, i8, i9, i10, i11, i12, i13⟩, j1, j2, j3, j4, j5, j6, j7, j8, j9⟩ := id hJ
  rcases pc_ix x b (by omega) with ⟨h, h'⟩ | ⟨h1, h2, h3, h4⟩ | ⟨t, ht, rfl⟩
  · simp only [wpX_crash, wpX_isTxn, h, true_implies, false_implies, not_true_eq_false, not_false_eq_true, and_true, true_and, and_self, forall_eq, pc_d1, pc_dm1, pc_dm2, pc_dm3]
    exact R _
  · simp only [wpX_crash, wpX_isTxn, h1, h4, true_implies, false_implies, not_true_eq_false, not_false_eq_true, and_true, true_and, and_self, forall_eq, pc_d1, pc_dm1, pc_dm2, pc_dm3]
    exact R _
  · have ht8 : t < 8 := by omega
    have et : (nI t).toNatClampNeg = t := nI_clamp (by omega)
    have vt8 : vp_in (nI t) 8 := vp_in_nI ht8 (by omega)
    have f1 : ¬ nI t < 0 := nI_pos (by omega)
    have f2 : ¬ nI b ≤ nI t := nI_ge ht (by omega)
    by_cases ha : al t = 0
    · simp only [wpX_crash, wpX_isTxn, f1, f2, et, vt8, ha, true_implies, false_implies, not_true_eq_false, not_false_eq_true, and_true, true_and, and_self, forall_eq, pc_d1, pc_dm1, pc_dm2, pc_dm3]
      exact R _
    · simp only [wpX_crash, wpX_isTxn, f1, f2, et, vt8, ha, true_implies, false_implies, not_true_eq_false, not_false_eq_true, and_true, true_and, and_self, forall_eq, pc_d1, pc_dm1, pc_dm2, pc_dm3]
      exact hp _ _ ⟨_, _, _, _, _, _, _, _, _, _, _, _, _, _, rfl, pq_crash hJ, hX, hM, hP⟩
theorem po_addWrite {M : Nat → Int32 → Int32 → Prop} {P : Nat → Prop} {u : St1} {post : Int32 → St1 → Prop} (h : pq_K M P u) (x y z : Int32) (hp : ∀ r u', pq_K M P u' → post r u') : wpX_addWrite post u x y z := by
  obtain ⟨b, ca, vc, vt, vv, tt, st, al, sg, sc, ky, vl, pl, L, rfl, hJ, hX, hM, hP⟩ := h
  have R : ∀ r, post r (nI 8, nI b, ca, vc, vt, vv, tt, st, al, sg, sc, ky, vl, pl) := fun r => hp r _ ⟨_, _, _, _, _, _, _, _, _, _, _, _, _, _, rfl, hJ, hX, hM, hP⟩
  obtain ⟨⟨w, ⟨i1, i1'⟩, i2, i3, i4, i5, i6, i7, i8, i9, i10, i11, i12, i13⟩, j1, j2, j3, j4, j5, j6, j7, j8, j9⟩ := id hJ
  rcases pc_ix x b (by omega) with ⟨h, h'⟩ | ⟨h1, h2, h3, h4⟩ | ⟨t, ht, rfl⟩
  · simp only [wpX_addWrite, wpX_coordinatorRefusal, wpX_isTxn, wpX_isKey, wpX_cellOf, h, true_implies, false_implies, not_true_eq_false, not_false_eq_true, and_true, true_and, and_self, forall_eq, pc_d1, pc_dm1, pc_dm2, pc_dm3]
    exact R _
  · simp only [wpX_addWrite, wpX_coordinatorRefusal, wpX_isTxn, wpX_isKey, wpX_cellOf, h1, h4, true_implies, false_implies, not_true_eq_false, not_false_eq_true, and_true, true_and, and_self, forall_eq, pc_d1, pc_dm1, pc_dm2, pc_dm3]
    exact R _
  · have ht8 : t < 8 := by omega
    have et : (nI t).toNatClampNeg = t := nI_clamp (by omega)
    have vt8 : vp_in (nI t) 8 := vp_in_nI ht8 (by omega)
    have f1 : ¬ nI t < 0 := nI_pos (by omega)
    have f2 : ¬ nI b ≤ nI t := nI_ge ht (by omega)
    have n4 := (i7 t).1
    have en := (i7 t).2
    by_cases hs : st t = 1
    · by_cases ha : al t = 0
      · simp only [wpX_addWrite, wpX_coordinatorRefusal, wpX_isTxn, wpX_isKey, wpX_cellOf, f1, f2, et, vt8, hs, ha, true_implies, false_implies, not_true_eq_false, not_false_eq_true, and_true, true_and, and_self, forall_eq, pc_d1, pc_dm1, pc_dm2, pc_dm3]
        exact R _
      · rcases pc_ix y 16 (by omega) with ⟨g, g'⟩ | ⟨g1, g2, g3, g4⟩ | ⟨q, hq, rfl⟩
        · simp only [wpX_addWrite, wpX_coordinatorRefusal, wpX_isTxn, wpX_isKey, wpX_cellOf, f1, f2, et, vt8, hs, ha, g, true_implies, false_implies, not_true_eq_false, not_false_eq_true, and_true, true_and, and_self, forall_eq, pc_d1, pc_dm1, pc_dm2, pc_dm3]
          exact R _
        · have g5 : 16 ≤ y := g4
          simp only [wpX_addWrite, wpX_coordinatorRefusal, wpX_isTxn, wpX_isKey, wpX_cellOf, f1, f2, et, vt8, hs, ha, g1, g5, true_implies, false_implies, not_true_eq_false, not_false_eq_true, and_true, true_and, and_self, forall_eq, pc_d1, pc_dm1, pc_dm2, pc_dm3]
          exact R _
        · have q1 : ¬ nI q < 0 := nI_pos (by omega)
          have q2 : ¬ 16 ≤ nI q := nI_ge (b := 16) hq (by decide)
          by_cases b1 : z < 0
          · simp only [wpX_addWrite, wpX_coordinatorRefusal, wpX_isTxn, wpX_isKey, wpX_cellOf, f1, f2, et, vt8, hs, ha, q1, q2, b1, true_implies, false_implies, not_true_eq_false, not_false_eq_true, and_true, true_and, and_self, forall_eq, pc_d1, pc_dm1, pc_dm2, pc_dm3]
            exact R _
          · by_cases b2 : z ≤ 32767
            · simp only [wpX_addWrite, wpX_coordinatorRefusal, wpX_isTxn, wpX_isKey, wpX_cellOf, f1, f2, et, vt8, hs, ha, q1, q2, b1, b2, true_implies, false_implies, not_true_eq_false, not_false_eq_true, and_true, true_and, and_self, forall_eq, pc_d1, pc_dm1, pc_dm2, pc_dm3]
              refine xh_writesKey ht8 en n4 (fun hT => ?_) (fun hF => ?_)
              · simp only [true_implies, false_implies, not_true_eq_false, not_false_eq_true, and_true, true_and, and_self, forall_eq, pc_d1, pc_dm1, pc_dm2, pc_dm3]
                exact R _
              · by_cases n5 : pc_n sc t < 4
                · have c1 : sc t < 4 := by rw [en]; exact nI_lt (b := 4) n5 (by decide)
                  generalize hg : pc_n sc t = n at *
                  have ec : (nI (t * 4 + n)).toNatClampNeg = t * 4 + n := nI_clamp (by omega)
                  have vc32 : vp_in (nI (t * 4 + n)) 32 := vp_in_nI (by omega) (by omega)
                  simp only [c1, vt8, true_implies, false_implies, not_true_eq_false, not_false_eq_true, and_true, true_and, and_self, forall_eq, pc_d1, pc_dm1, pc_dm2, pc_dm3]
                  simp only [en, pc_cell, ec, vc32, nI_1, true_implies, false_implies, not_true_eq_false, not_false_eq_true, and_true, true_and, and_self, forall_eq, pc_d1, pc_dm1, pc_dm2, pc_dm3]
                  have e := pq_add hJ ht hs en n5 hq hF
                  exact hp _ _ ⟨_, _, _, _, _, _, _, _, _, _, _, _, _, _, rfl, e.1, hX, fun k r a hk z => e.2.1 k r a hk (hM k r a hk z), fun t z => e.2.2 t (hP t z)⟩
                · have c1 : ¬ sc t < 4 := by rw [en]; exact nI_nlt (b := 4) (by omega) (by omega)
                  simp only [vt8, c1, true_implies, false_implies, not_true_eq_false, not_false_eq_true, and_true, true_and, and_self, forall_eq, pc_d1, pc_dm1, pc_dm2, pc_dm3]
                  exact R _
            · simp only [wpX_addWrite, wpX_coordinatorRefusal, wpX_isTxn, wpX_isKey, wpX_cellOf, f1, f2, et, vt8, hs, ha, q1, q2, b1, b2, true_implies, false_implies, not_true_eq_false, not_false_eq_true, and_true, true_and, and_self, forall_eq, pc_d1, pc_dm1, pc_dm2, pc_dm3]
              exact R _
    · simp only [wpX_addWrite, wpX_coordinatorRefusal, wpX_isTxn, wpX_isKey, wpX_cellOf, f1, f2, et, vt8, hs, true_implies, false_implies, not_true_eq_false, not_false_eq_true, and_true, true_and, and_self, forall_eq, pc_d1, pc_dm1, pc_dm2, pc_dm3]
      exact R _
theorem po_probe {M : Nat → Int32 → Int32 → Prop} {P : Nat → Prop} {u : St1} {post : Int32 → St1 → Prop} (h : pq_K M P u) (x y : Int32) (hp : ∀ r u', pq_K M P u' → post r u') : wpX_probe post u x y := by
  obtain ⟨b, ca, vc, vt, vv, tt, st, al, sg, sc, ky, vl, pl, L, rfl, hJ, hX, hM, hP⟩ := h
  have R : ∀ r, post r (nI 8, nI b, ca, vc, vt, vv, tt, st, al, sg, sc, ky, vl, pl) := fun r => hp r _ ⟨_, _, _, _, _, _, _, _, _, _, _, _, _, _, rfl, hJ, hX, hM, hP⟩
  obtain ⟨⟨w, ⟨i1, i1'⟩, i2, i3, i4, i5, i6, i7, i8, i9, i10, i11, i12, i13⟩, j1, j2, j3, j4, j5, j6, j7, j8, j9⟩ := id hJ
  rcases pc_ix x b (by omega) with ⟨h, h'⟩ | ⟨h1, h2, h3, h4⟩ | ⟨t, ht, rfl⟩
  · simp only [wpX_probe, wpX_isTxn, wpX_isSlot, wpX_isDelivered, wpX_deliveredState, wpX_cellOf, h, true_implies, false_implies, not_true_eq_false, not_false_eq_true, and_true, true_and, and_self, forall_eq, pc_d1, pc_dm1, pc_dm2, pc_dm3]
    exact R _
  · simp only [wpX_probe, wpX_isTxn, wpX_isSlot, wpX_isDelivered, wpX_deliveredState, wpX_cellOf, h1, h4, true_implies, false_implies, not_true_eq_false, not_false_eq_true, and_true, true_and, and_self, forall_eq, pc_d1, pc_dm1, pc_dm2, pc_dm3]
    exact R _
  · have ht8 : t < 8 := by omega
    have et : (nI t).toNatClampNeg = t := nI_clamp (by omega)
    have vt8 : vp_in (nI t) 8 := vp_in_nI ht8 (by omega)
    have f1 : ¬ nI t < 0 := nI_pos (by omega)
    have f2 : ¬ nI b ≤ nI t := nI_ge ht (by omega)
    have n4 := (i7 t).1
    have en := (i7 t).2
    by_cases hs : st t = 2
    · rcases pc_ix y (pc_n sc t) (by omega) with ⟨g, g'⟩ | ⟨g1, g2, g3, g4⟩ | ⟨i, hi, rfl⟩
      · simp only [wpX_probe, wpX_isTxn, wpX_isSlot, wpX_isDelivered, wpX_deliveredState, wpX_cellOf, f1, f2, et, vt8, hs, g, true_implies, false_implies, not_true_eq_false, not_false_eq_true, and_true, true_and, and_self, forall_eq, pc_d1, pc_dm1, pc_dm2, pc_dm3]
        exact R _
      · rw [← en] at g4
        simp only [wpX_probe, wpX_isTxn, wpX_isSlot, wpX_isDelivered, wpX_deliveredState, wpX_cellOf, f1, f2, et, vt8, hs, g1, g4, true_implies, false_implies, not_true_eq_false, not_false_eq_true, and_true, true_and, and_self, forall_eq, pc_d1, pc_dm1, pc_dm2, pc_dm3]
        exact R _
      · have ec : (nI (t * 4 + i)).toNatClampNeg = t * 4 + i := nI_clamp (by omega)
        have vc32 : vp_in (nI (t * 4 + i)) 32 := vp_in_nI (by omega) (by omega)
        have s1 : ¬ nI i < 0 := nI_pos (by omega)
        have s2 : ¬ sc t ≤ nI i := by rw [en]; exact nI_ge hi (by omega)
        by_cases hz : pl (t * 4 + i) = 0
        · simp only [wpX_probe, wpX_isTxn, wpX_isSlot, wpX_isDelivered, wpX_deliveredState, wpX_cellOf, f1, f2, et, vt8, hs, s1, s2, pc_cell, ec, vc32, hz, true_implies, false_implies, not_true_eq_false, not_false_eq_true, and_true, true_and, and_self, forall_eq, pc_d1, pc_dm1, pc_dm2, pc_dm3]
          refine xh_prevent ht8 (by omega) i9 ?_
          have e := pq_ra (q := (ky (t * 4 + i)).toNatClampNeg) hJ (j2 t)
          exact hp _ _ ⟨_, _, _, _, _, _, _, _, _, _, _, _, _, _, rfl, e.1, hX, fun k r a hk z => e.2.1 k r a hk (hM k r a hk z), fun t z => e.2.2 t (hP t z)⟩
        · by_cases ha : pl (t * 4 + i) = tt t
          · rw [ha] at hz
            simp only [wpX_probe, wpX_isTxn, wpX_isSlot, wpX_isDelivered, wpX_deliveredState, wpX_cellOf, f1, f2, et, vt8, hs, s1, s2, pc_cell, ec, vc32, ha, hz, true_implies, false_implies, not_true_eq_false, not_false_eq_true, and_true, true_and, and_self, forall_eq, pc_d1, pc_dm1, pc_dm2, pc_dm3]
            exact R _
          · simp only [wpX_probe, wpX_isTxn, wpX_isSlot, wpX_isDelivered, wpX_deliveredState, wpX_cellOf, f1, f2, et, vt8, hs, s1, s2, pc_cell, ec, vc32, hz, ha, true_implies, false_implies, not_true_eq_false, not_false_eq_true, and_true, true_and, and_self, forall_eq, pc_d1, pc_dm1, pc_dm2, pc_dm3]
            exact R _
    · simp only [wpX_probe, wpX_isTxn, wpX_isSlot, wpX_isDelivered, wpX_deliveredState, wpX_cellOf, f1, f2, et, vt8, hs, true_implies, false_implies, not_true_eq_false, not_false_eq_true, and_true, true_and, and_self, forall_eq, pc_d1, pc_dm1, pc_dm2, pc_dm3]
      exact R _
end
section
/-! ## deliver, finalize, recover, read; what the law asks of each transaction -/
theorem po_deliver {M : Nat → Int32 → Int32 → Prop} {P : Nat → Prop} {u : St1} {post : Int32 → St1 → Prop} (h : pq_K M P u) (x y : Int32) (hp : ∀ r u', pq_K M P u' → post r u') : wpX_deliver post u x y := by
  obtain ⟨b, ca, vc, vt, vv, tt, st, al, sg, sc, ky, vl, pl, L, rfl, hJ, hX, hM, hP⟩ := h
  have R : ∀ r, post r (nI 8, nI b, ca, vc, vt, vv, tt, st, al, sg, sc, ky, vl, pl) := fun r => hp r _ ⟨_, _, _, _, _, _, _, _, _, _, _, _, _, _, rfl, hJ, hX, hM, hP⟩
  obtain ⟨⟨w, ⟨i1, i1'⟩, i2, i3, i4, i5, i6, i7, i8, i9, i10, i11, i12, i13⟩, j1, j2, j3, j4, j5, j6, j7, j8, j9⟩ := id hJ
  rcases pc_ix x b (by omega) with ⟨h, h'⟩ | ⟨h1, h2, h3, h4⟩ | ⟨t, ht, rfl⟩
  · simp only [wpX_deliver, wpX_isTxn, h, true_implies, false_implies, not_true_eq_false, not_false_eq_true, and_true, true_and, and_self, forall_eq, pc_d1, pc_dm1, pc_dm2, pc_dm3]
    exact R _
  · simp only [wpX_deliver, wpX_isTxn, h1, h4, true_implies, false_implies, not_true_eq_false, not_false_eq_true, and_true, true_and, and_self, forall_eq, pc_d1, pc_dm1, pc_dm2, pc_dm3]
    exact R _
  · have ht8 : t < 8 := by omega
    have et : (nI t).toNatClampNeg = t := nI_clamp (by omega)
    have vt8 : vp_in (nI t) 8 := vp_in_nI ht8 (by omega)
    have f1 : ¬ nI t < 0 := nI_pos (by omega)
    have f2 : ¬ nI b ≤ nI t := nI_ge ht (by omega)
    have n4 := (i7 t).1
    have en := (i7 t).2
    rcases pc_ix y (pc_n sc t) (by omega) with ⟨g, g'⟩ | ⟨g1, g2, g3, g4⟩ | ⟨i, hi, rfl⟩
    · simp only [wpX_deliver, wpX_isTxn, wpX_isSlot, f1, f2, et, vt8, g, true_implies, false_implies, not_true_eq_false, not_false_eq_true, and_true, true_and, and_self, forall_eq, pc_d1, pc_dm1, pc_dm2, pc_dm3]
      exact R _
    · rw [← en] at g4
      simp only [wpX_deliver, wpX_isTxn, wpX_isSlot, f1, f2, et, vt8, g1, g4, true_implies, false_implies, not_true_eq_false, not_false_eq_true, and_true, true_and, and_self, forall_eq, pc_d1, pc_dm1, pc_dm2, pc_dm3]
      exact R _
    · have ec : (nI (t * 4 + i)).toNatClampNeg = t * 4 + i := nI_clamp (by omega)
      have vc32 : vp_in (nI (t * 4 + i)) 32 := vp_in_nI (by omega) (by omega)
      have s1 : ¬ nI i < 0 := nI_pos (by omega)
      have s2 : ¬ sc t ≤ nI i := by rw [en]; exact nI_ge hi (by omega)
      by_cases hz : pl (t * 4 + i) = 0
      · obtain ⟨q, hq, ek⟩ := i9 (t * 4 + i)
        have dec : (st t = 1 ∨ st t = 2) ∨ (st t = 3 ∨ st t = 4) := by
          rcases i4 t ht with y | y | y | y
          · exact Or.inl (Or.inl y)
          · exact Or.inl (Or.inr y)
          · exact Or.inr (Or.inl y)
          · exact Or.inr (Or.inr y)
        rcases dec with hu | hu
        · have e3 : ¬ st t = 3 := by rcases hu with y | y <;> rw [y] <;> decide
          have e4 : ¬ st t = 4 := by rcases hu with y | y <;> rw [y] <;> decide
          simp only [wpX_deliver, wpX_isTxn, wpX_isSlot, wpX_isDelivered, wpX_isDecided, wpX_cellOf, f1, f2, et, vt8, s1, s2, pc_cell, ec, vc32, hz, ek, e3, e4, true_implies, false_implies, not_true_eq_false, not_false_eq_true, and_true, true_and, and_self, forall_eq, pc_d1, pc_dm1, pc_dm2, pc_dm3]
          refine xh_intentTs (by omega) i4 i7 i10 (fun hno => ?_) (fun s j hs hh hl hnz => ?_)
          · refine br_t (by trivial) (xh_floorOf hq hX ?_)
            have fle := pq_fl_le (L q) (ca q) (j4 q) (j1 q)
            have D : ∀ v : Int32, (L q).foldl pc_g (ca q) < v → ∀ r, post r (nI 8, nI b, ca, vc, vt, vv, tt, st, al, sg, sc, ky, vl, upd pl (t * 4 + i) v) := by
              intro v hv r
              have e := pq_deliver (x := v) hJ ht hu en n4 hi hz hq ek hno hv
              exact hp _ _ ⟨_, _, _, _, _, _, _, _, _, _, _, _, _, _, rfl, e.1, hX, fun k r a hk z => e.2.1 k r a hk (hM k r a hk z), fun t z => e.2.2 t (hP t z)⟩
            refine br_c (fun z => ?_) (fun z => ?_)
            · simp only [wX_deliver_109, wpX_deliveredState, wpX_cellOf, et, vt8, pc_cell, ec, vc32, true_implies, false_implies, not_true_eq_false, not_false_eq_true, and_true, true_and, and_self, forall_eq, pc_d1, pc_dm1, pc_dm2, pc_dm3]
              exact ⟨fun _ => D _ (pq_succ fle) _, fun _ => D _ (pq_succ fle) _⟩
            · simp only [wX_deliver_109, wpX_deliveredState, wpX_cellOf, et, vt8, pc_cell, ec, vc32, true_implies, false_implies, not_true_eq_false, not_false_eq_true, and_true, true_and, and_self, forall_eq, pc_d1, pc_dm1, pc_dm2, pc_dm3]
              exact ⟨fun _ => D _ (Int32.not_le.mp z) _, fun _ => D _ (Int32.not_le.mp z) _⟩
          · exact br_f hnz (R _)
        · rcases hu with y | y
          · simp only [wpX_deliver, wpX_isTxn, wpX_isSlot, wpX_isDelivered, wpX_isDecided, wpX_cellOf, f1, f2, et, vt8, s1, s2, pc_cell, ec, vc32, hz, y, true_implies, false_implies, not_true_eq_false, not_false_eq_true, and_true, true_and, and_self, forall_eq, pc_d1, pc_dm1, pc_dm2, pc_dm3]
            exact R _
          · have y3 : ¬ st t = 3 := by rw [y]; decide
            simp only [wpX_deliver, wpX_isTxn, wpX_isSlot, wpX_isDelivered, wpX_isDecided, wpX_cellOf, f1, f2, et, vt8, s1, s2, pc_cell, ec, vc32, hz, y3, true_implies, false_implies, not_true_eq_false, not_false_eq_true, and_true, true_and, and_self, forall_eq, pc_d1, pc_dm1, pc_dm2, pc_dm3]
            simp only [y, true_implies, false_implies, not_true_eq_false, not_false_eq_true, and_true, true_and, and_self, forall_eq, pc_d1, pc_dm1, pc_dm2, pc_dm3]
            exact R _
      · simp only [wpX_deliver, wpX_isTxn, wpX_isSlot, wpX_isDelivered, wpX_cellOf, f1, f2, et, vt8, s1, s2, pc_cell, ec, vc32, hz, true_implies, false_implies, not_true_eq_false, not_false_eq_true, and_true, true_and, and_self, forall_eq, pc_d1, pc_dm1, pc_dm2, pc_dm3]
        exact R _
theorem po_finalize {M : Nat → Int32 → Int32 → Prop} {P : Nat → Prop} {u : St1} {post : Int32 → St1 → Prop} (h : pq_K M P u) (x : Int32) (hp : ∀ r u', pq_K M P u' → post r u') : wpX_finalize post u x := by
  obtain ⟨b, ca, vc, vt, vv, tt, st, al, sg, sc, ky, vl, pl, L, rfl, hJ, hX, hM, hP⟩ := h
  have R : ∀ r, post r (nI 8, nI b, ca, vc, vt, vv, tt, st, al, sg, sc, ky, vl, pl) := fun r => hp r _ ⟨_, _, _, _, _, _, _, _, _, _, _, _, _, _, rfl, hJ, hX, hM, hP⟩
  obtain ⟨⟨w, ⟨i1, i1'⟩, i2, i3, i4, i5, i6, i7, i8, i9, i10, i11, i12, i13⟩, j1, j2, j3, j4, j5, j6, j7, j8, j9⟩ := id hJ
  rcases pc_ix x b (by omega) with ⟨h, h'⟩ | ⟨h1, h2, h3, h4⟩ | ⟨t, ht, rfl⟩
  · simp only [wpX_finalize, wpX_coordinatorRefusal, wpX_isTxn, h, true_implies, false_implies, not_true_eq_false, not_false_eq_true, and_true, true_and, and_self, forall_eq, pc_d1, pc_dm1, pc_dm2, pc_dm3]
    exact R _
  · simp only [wpX_finalize, wpX_coordinatorRefusal, wpX_isTxn, h1, h4, true_implies, false_implies, not_true_eq_false, not_false_eq_true, and_true, true_and, and_self, forall_eq, pc_d1, pc_dm1, pc_dm2, pc_dm3]
    exact R _
  · have ht8 : t < 8 := by omega
    have et : (nI t).toNatClampNeg = t := nI_clamp (by omega)
    have vt8 : vp_in (nI t) 8 := vp_in_nI ht8 (by omega)
    have f1 : ¬ nI t < 0 := nI_pos (by omega)
    have f2 : ¬ nI b ≤ nI t := nI_ge ht (by omega)
    have n4 := (i7 t).1
    have en := (i7 t).2
    by_cases hs : st t = 2
    · by_cases ha : al t = 0
      · simp only [wpX_finalize, wpX_coordinatorRefusal, wpX_isTxn, f1, f2, et, vt8, hs, ha, true_implies, false_implies, not_true_eq_false, not_false_eq_true, and_true, true_and, and_self, forall_eq, pc_d1, pc_dm1, pc_dm2, pc_dm3]
        exact R _
      · have s3 : ¬ st t = 3 := by rw [hs]; decide
        have c7 := pc_cn_lt s3 8 ht8
        simp only [wpX_finalize, wpX_coordinatorRefusal, wpX_isTxn, f1, f2, et, vt8, hs, ha, true_implies, false_implies, not_true_eq_false, not_false_eq_true, and_true, true_and, and_self, forall_eq, pc_d1, pc_dm1, pc_dm2, pc_dm3]
        refine xh_allDel ht8 en n4 (fun hT => ?_) (fun hF => br_t (by trivial) (R _))
        refine br_f (by decide) (xh_decide ht8 en n4 i9 (i10 t) hX (fun q => by have := i12 q; omega) (fun hA => ?_) (fun hC vc' vt' vv' hX' => ?_))
        · have e := pq_abort hJ ht s3 (fun z => by obtain ⟨i, hi, y⟩ := hA; exact y (z.2.2 i hi))
          exact hp _ _ ⟨_, _, _, _, _, _, _, _, _, _, _, _, _, _, rfl, e.1, hX, fun k r a hk z => e.2.1 k r a hk (hM k r a hk z), fun t z => e.2.2 t (hP t z)⟩
        · have e := pq_commit (vl := vl) hJ ht hs en n4 hC
          exact hp _ _ ⟨_, _, _, _, _, _, _, _, _, _, _, _, _, _, rfl, e.1, hX', fun k r a hk z => e.2.1 k r a hk (hM k r a hk z), fun t z => e.2.2 t (hP t z)⟩
    · simp only [wpX_finalize, wpX_coordinatorRefusal, wpX_isTxn, f1, f2, et, vt8, hs, true_implies, false_implies, not_true_eq_false, not_false_eq_true, and_true, true_and, and_self, forall_eq, pc_d1, pc_dm1, pc_dm2, pc_dm3]
      exact R _
theorem po_recover {M : Nat → Int32 → Int32 → Prop} {P : Nat → Prop} {u : St1} {post : Int32 → St1 → Prop} (h : pq_K M P u) (x : Int32) (hp : ∀ r u', pq_K M P u' → post r u') : wpX_recover post u x := by
  obtain ⟨b, ca, vc, vt, vv, tt, st, al, sg, sc, ky, vl, pl, L, rfl, hJ, hX, hM, hP⟩ := h
  have R : ∀ r, post r (nI 8, nI b, ca, vc, vt, vv, tt, st, al, sg, sc, ky, vl, pl) := fun r => hp r _ ⟨_, _, _, _, _, _, _, _, _, _, _, _, _, _, rfl, hJ, hX, hM, hP⟩
  obtain ⟨⟨w, ⟨i1, i1'⟩, i2, i3, i4, i5, i6, i7, i8, i9, i10, i11, i12, i13⟩, j1, j2, j3, j4, j5, j6, j7, j8, j9⟩ := id hJ
  rcases pc_ix x b (by omega) with ⟨h, h'⟩ | ⟨h1, h2, h3, h4⟩ | ⟨t, ht, rfl⟩
  · simp only [wpX_recover, wpX_isTxn, h, true_implies, false_implies, not_true_eq_false, not_false_eq_true, and_true, true_and, and_self, forall_eq, pc_d1, pc_dm1, pc_dm2, pc_dm3]
    exact R _
  · simp only [wpX_recover, wpX_isTxn, h1, h4, true_implies, false_implies, not_true_eq_false, not_false_eq_true, and_true, true_and, and_self, forall_eq, pc_d1, pc_dm1, pc_dm2, pc_dm3]
    exact R _
  · have ht8 : t < 8 := by omega
    have et : (nI t).toNatClampNeg = t := nI_clamp (by omega)
    have vt8 : vp_in (nI t) 8 := vp_in_nI ht8 (by omega)
    have f1 : ¬ nI t < 0 := nI_pos (by omega)
    have f2 : ¬ nI b ≤ nI t := nI_ge ht (by omega)
    have n4 := (i7 t).1
    have en := (i7 t).2
    rcases i4 t ht with y | y | y | y
    · have y3 : ¬ st t = 3 := by rw [y]; decide
      have y4 : ¬ st t = 4 := by rw [y]; decide
      simp only [wpX_recover, wpX_isTxn, wpX_isDecided, wpX_abort, f1, f2, et, vt8, y3, y4, true_implies, false_implies, not_true_eq_false, not_false_eq_true, and_true, true_and, and_self, forall_eq, pc_d1, pc_dm1, pc_dm2, pc_dm3]
      simp only [y, true_implies, false_implies, not_true_eq_false, not_false_eq_true, and_true, true_and, and_self, forall_eq, pc_d1, pc_dm1, pc_dm2, pc_dm3]
      have e := pq_abort hJ ht y3 (fun z => absurd z.2.1 (by rw [j5 t ht y]; decide))
      exact hp _ _ ⟨_, _, _, _, _, _, _, _, _, _, _, _, _, _, rfl, e.1, hX, fun k r a hk z => e.2.1 k r a hk (hM k r a hk z), fun t z => e.2.2 t (hP t z)⟩
    · have y1 : ¬ st t = 1 := by rw [y]; decide
      have y3 : ¬ st t = 3 := by rw [y]; decide
      have y4 : ¬ st t = 4 := by rw [y]; decide
      have c7 := pc_cn_lt y3 8 ht8
      simp only [wpX_recover, wpX_isTxn, wpX_isDecided, f1, f2, et, vt8, y1, y3, y4, true_implies, false_implies, not_true_eq_false, not_false_eq_true, and_true, true_and, and_self, forall_eq, pc_d1, pc_dm1, pc_dm2, pc_dm3]
      have p := pq_pv (c := t * 4) hJ (j2 t) (pc_n sc t)
      refine xh_prevAll ht8 en n4 i9 (xh_decide ht8 en n4 i9 (i10 t) hX (fun q => by have := i12 q; omega) (fun hA => ?_) (fun hC vc' vt' vv' hX' => ?_))
      · have e := pq_abort p.1 ht y3 (fun z => by obtain ⟨i, hi, y⟩ := hA; exact y (z.2.2 i hi))
        have g := pq_go_trans p.2 e.2
        exact hp _ _ ⟨_, _, _, _, _, _, _, _, _, _, _, _, _, _, rfl, e.1, hX, fun k r a hk z => g.1 k r a hk (hM k r a hk z), fun t z => g.2 t (hP t z)⟩
      · have e := pq_commit (vl := vl) p.1 ht y en n4 hC
        have g := pq_go_trans p.2 e.2
        exact hp _ _ ⟨_, _, _, _, _, _, _, _, _, _, _, _, _, _, rfl, e.1, hX', fun k r a hk z => g.1 k r a hk (hM k r a hk z), fun t z => g.2 t (hP t z)⟩
    · simp only [wpX_recover, wpX_isTxn, wpX_isDecided, f1, f2, et, vt8, y, true_implies, false_implies, not_true_eq_false, not_false_eq_true, and_true, true_and, and_self, forall_eq, pc_d1, pc_dm1, pc_dm2, pc_dm3]
      exact R _
    · have y3 : ¬ st t = 3 := by rw [y]; decide
      simp only [wpX_recover, wpX_isTxn, wpX_isDecided, f1, f2, et, vt8, y3, true_implies, false_implies, not_true_eq_false, not_false_eq_true, and_true, true_and, and_self, forall_eq, pc_d1, pc_dm1, pc_dm2, pc_dm3]
      simp only [y, true_implies, false_implies, not_true_eq_false, not_false_eq_true, and_true, true_and, and_self, forall_eq, pc_d1, pc_dm1, pc_dm2, pc_dm3]
      exact R _
/-- what read saw is remembered with the rest, and a pair that was seen before answers as it did -/
theorem po_read {M : Nat → Int32 → Int32 → Prop} {P : Nat → Prop} {u : St1} {post : Int32 → St1 → Prop} (h : pq_K M P u) {q : Nat} {ts : Int32} (hq : q < 16) (h1 : ¬ ts < 1) (h2 : ¬ 1000000 < ts)
    (hp : ∀ r u', pq_K (fun k s a => M k s a ∨ (k = q ∧ s = ts ∧ a = r ∧ ¬ r = -10)) P u' → (∀ a, M q ts a → r = a) → post r u') : wpX_read post u (nI q) ts := by
  obtain ⟨b, ca, vc, vt, vv, tt, st, al, sg, sc, ky, vl, pl, L, rfl, hJ, hX, hM, hP⟩ := h
  obtain ⟨⟨w, ⟨i1, i1'⟩, i2, i3, i4, i5, i6, i7, i8, i9, i10, i11, i12, i13⟩, j1, j2, j3, j4, j5, j6, j7, j8, j9⟩ := id hJ
  have eq : (nI q).toNatClampNeg = q := nI_clamp (by omega)
  have q1 : ¬ nI q < 0 := nI_pos (by omega)
  have q2 : ¬ 16 ≤ nI q := nI_ge (b := 16) hq (by decide)
  have done : (∀ t i, pc_hit st sc ky pl (nI q) t i → ts < pl (t * 4 + i)) → wX_read_37 post (nI q) ts (nI 8) (nI b) ca vc vt vv tt st al sg sc ky vl pl := by
    intro hh
    unfold wX_read_37
    refine xh_raise hq (xh_last hq hX ?_)
    have e := pq_ra (q := q) hJ (Int32.not_lt.mp h2)
    refine hp _ _ ⟨_, _, _, _, _, _, _, _, _, _, _, _, _, _, rfl, e.1, hX, fun k r a hk z => ?_, fun t z => e.2.2 t (hP t z)⟩ (fun a ha => (hM q ts a hq ha).2.2)
    rcases z with z | ⟨rfl, rfl, rfl, _⟩
    · exact e.2.1 k r a hk (hM k r a hk z)
    · refine ⟨?_, hh, rfl⟩
      unfold pc_ra
      split
      · assumption
      · rw [pk_us]
        exact Int32.le_refl _
  simp only [wpX_read, wpX_isKey, wpX_isTimestamp, q1, q2, h1, h2, true_implies, false_implies, not_true_eq_false, not_false_eq_true, and_true, true_and, and_self, forall_eq, pc_d1, pc_dm1, pc_dm2, pc_dm3]
  refine xh_intentTs (by omega) i4 i7 i10 (fun hno => ?_) (fun s j hs hh hl hnz => ?_)
  · exact br_t (by trivial) (done (fun t i z => absurd z (hno t (pq_und_b i8 z.1) i)))
  · refine br_f hnz (br_c (fun z => done (fun t i y => ?_)) (fun z => ?_))
    · have e : s = t := j9 (nI q) s j t i hh y
      subst e
      rcases Nat.lt_trichotomy i j with g | g | g
      · exact absurd (y.2.2.2.trans hh.2.2.2.symm) (i10 s i j g hh.2.1)
      · rw [g]
        exact z
      · exact absurd (hh.2.2.2.trans y.2.2.2.symm) (i10 s j i g y.2.1)
    · refine hp _ _ ⟨_, _, _, _, _, _, _, _, _, _, _, _, _, _, rfl, hJ, hX, fun k r a hk y => ?_, hP⟩ (fun a ha => absurd ((hM q ts a hq ha).2.1 s j hh) z)
      rcases y with y | ⟨_, _, _, y⟩
      · exact hM k r a hk y
      · exact absurd rfl y
theorem po_status {b t : Nat} {ca vc vt vv tt st al sg sc ky vl pl : Nat → Int32} {L : Nat → List (Int32 × Int32)} (hJ : pq_J b ca tt st al sg sc ky pl L) (ht8 : t < 8) :
    ∃ s : Int32, (s = 0 ∨ s = 1 ∨ s = 2 ∨ s = 3 ∨ s = 4) ∧ (s = 3 → pq_imp b tt sg sc pl t) ∧ (s = 4 → ¬ pq_imp b tt sg sc pl t) ∧ ∀ post : Int32 → Prop, post s → wpX_status post (nI 8, nI b, ca, vc, vt, vv, tt, st, al, sg, sc, ky, vl, pl) (nI t) := by
  obtain ⟨⟨w, ⟨i1, i1'⟩, i2, i3, i4, i5, i6, i7, i8, i9, i10, i11, i12, i13⟩, j1, j2, j3, j4, j5, j6, j7, j8, j9⟩ := id hJ
  have et : (nI t).toNatClampNeg = t := nI_clamp (by omega)
  have vt8 : vp_in (nI t) 8 := vp_in_nI ht8 (by omega)
  have f1 : ¬ nI t < 0 := nI_pos (by omega)
  by_cases ht : t < b
  · have f2 : ¬ nI b ≤ nI t := nI_ge ht (by omega)
    refine ⟨st t, ?_, j7 t ht, j8 t ht, fun post hp => ?_⟩
    · exact Or.inr (i4 t ht)
    · simp only [wpX_status, wpX_isTxn, f1, f2, et, vt8, true_implies, false_implies, not_true_eq_false, not_false_eq_true, and_true, true_and, and_self, forall_eq, pc_d1, pc_dm1, pc_dm2, pc_dm3]
      exact hp
  · have f2 : nI b ≤ nI t := nI_le (by omega) (by omega)
    refine ⟨0, Or.inl rfl, fun z => absurd z (by decide), fun z => absurd z (by decide), fun post hp => ?_⟩
    simp only [wpX_status, wpX_isTxn, f1, f2, true_implies, false_implies, not_true_eq_false, not_false_eq_true, and_true, true_and, and_self, forall_eq, pc_d1, pc_dm1, pc_dm2, pc_dm3]
    exact hp
theorem po_imp {b t : Nat} {ca vc vt vv tt st al sg sc ky vl pl : Nat → Int32} {L : Nat → List (Int32 × Int32)} (hJ : pq_J b ca tt st al sg sc ky pl L) (ht8 : t < 8) :
    ∃ z : Int32, ((z = 0 ∧ ¬ pq_imp b tt sg sc pl t) ∨ (z = 1 ∧ pq_imp b tt sg sc pl t)) ∧ ∀ post : Int32 → Prop, post z → wpX_isImplicitlyCommitted post (nI 8, nI b, ca, vc, vt, vv, tt, st, al, sg, sc, ky, vl, pl) (nI t) := by
  obtain ⟨⟨w, ⟨i1, i1'⟩, i2, i3, i4, i5, i6, i7, i8, i9, i10, i11, i12, i13⟩, j1, j2, j3, j4, j5, j6, j7, j8, j9⟩ := id hJ
  have et : (nI t).toNatClampNeg = t := nI_clamp (by omega)
  have vt8 : vp_in (nI t) 8 := vp_in_nI ht8 (by omega)
  have f1 : ¬ nI t < 0 := nI_pos (by omega)
  have n4 := (i7 t).1
  have en := (i7 t).2
  by_cases ht : t < b
  · have f2 : ¬ nI b ≤ nI t := nI_ge ht (by omega)
    rcases i6 t with hg | hg
    · refine ⟨0, Or.inl ⟨rfl, fun z => absurd z.2.1 (by rw [hg]; decide)⟩, fun post hp => ?_⟩
      simp only [wpX_isImplicitlyCommitted, wpX_isTxn, f1, f2, et, vt8, hg, true_implies, false_implies, not_true_eq_false, not_false_eq_true, and_true, true_and, and_self, forall_eq, pc_d1, pc_dm1, pc_dm2, pc_dm3]
      exact hp
    · have hg0 : ¬ sg t = 0 := by rw [hg]; decide
      by_cases hA : ∀ i, i < pc_n sc t → pl (t * 4 + i) = tt t
      · refine ⟨1, Or.inr ⟨rfl, ht, hg, hA⟩, fun post hp => ?_⟩
        simp only [wpX_isImplicitlyCommitted, wpX_isTxn, f1, f2, et, vt8, hg0, true_implies, false_implies, not_true_eq_false, not_false_eq_true, and_true, true_and, and_self, forall_eq, pc_d1, pc_dm1, pc_dm2, pc_dm3]
        refine xh_allAt ht8 en n4 (fun _ => br_f (by decide) hp) (fun hF => ?_)
        obtain ⟨i, hi, y⟩ := hF
        exact absurd (hA i hi) y
      · refine ⟨0, Or.inl ⟨rfl, fun z => hA z.2.2⟩, fun post hp => ?_⟩
        simp only [wpX_isImplicitlyCommitted, wpX_isTxn, f1, f2, et, vt8, hg0, true_implies, false_implies, not_true_eq_false, not_false_eq_true, and_true, true_and, and_self, forall_eq, pc_d1, pc_dm1, pc_dm2, pc_dm3]
        exact xh_allAt ht8 en n4 (fun hT => absurd hT hA) (fun _ => br_t (by trivial) hp)
  · have f2 : nI b ≤ nI t := nI_le (by omega) (by omega)
    refine ⟨0, Or.inl ⟨rfl, fun z => ht z.1⟩, fun post hp => ?_⟩
    simp only [wpX_isImplicitlyCommitted, wpX_isTxn, f1, f2, true_implies, false_implies, not_true_eq_false, not_false_eq_true, and_true, true_and, and_self, forall_eq, pc_d1, pc_dm1, pc_dm2, pc_dm3]
    exact hp
end
section
/-! ## the law's memory by its 64 codes; masks by bits; the checks of a step -/
def pq_sel (m0 m1 m2 m3 : Int64) (w : Nat) : Int64 := if w = 0 then m0 else if w = 1 then m1 else if w = 2 then m2 else m3
def pq_code (m0 m1 m2 m3 : Int64) (id : Nat) : Nat := pq_nb (pq_sel m0 m1 m2 m3 (id / 16)) (id % 16)
def pq_dec (c : Nat) : Int32 := if c = 1 then -9 else nI c - 2
def pq_M (m0 m1 m2 m3 : Int64) (k : Nat) (r a : Int32) : Prop := ∃ p, k < 8 ∧ p < 8 ∧ r = nI (p + 1) ∧ ¬ pq_code m0 m1 m2 m3 (k * 8 + p) = 0 ∧ a = pq_dec (pq_code m0 m1 m2 m3 (k * 8 + p))
def pq_P (x : Int32) (t : Nat) : Prop := t < 32 ∧ bt x t = true
theorem pq_code_put {m0 m1 m2 m3 n0 n1 n2 n3 : Int64} {id c : Nat} (hi : id < 64) (hc : c < 16)
    (hs : ∀ w, w < 4 → pq_sel n0 n1 n2 n3 w = if w = id / 16 then pq_put (pq_sel m0 m1 m2 m3 w) (id % 16) c else pq_sel m0 m1 m2 m3 w) :
    ∀ e, e < 64 → pq_code n0 n1 n2 n3 e = if e = id then c else pq_code m0 m1 m2 m3 e := by
  intro e he
  unfold pq_code
  rw [hs (e / 16) (by omega)]
  by_cases w : e / 16 = id / 16
  · rw [if_pos w, pq_nb_put _ (Nat.mod_lt _ (by decide)) hc _ (Nat.mod_lt _ (by decide))]
    by_cases y : e % 16 = id % 16
    · rw [if_pos y, if_pos (show e = id by omega)]
    · rw [if_neg y, if_neg (fun z => y (by rw [z]))]
  · rw [if_neg w, if_neg (fun z => w (by rw [z]))]
theorem pq_and7 (x : Int32) : ∃ k, k < 8 ∧ x &&& 7 = nI k := pk_andE x 3 (by decide)
theorem pq_nI15 {id : Nat} (h : id < 64) : (nI id &&& 15) * 4 = nI (4 * (id % 16)) := by
  rw [show nI id &&& 15 = nI (id % 2 ^ 4) from pk_andN (by omega) 4 (by decide), pc_m4, Nat.mul_comm]
theorem pq_sh4 {id : Nat} (h : id < 64) : nI id >>> ((4 : Int32) &&& 31) = nI (id / 16) := pk_shrN (by omega) _ 4 (by decide)
theorem pq_sh3 {id : Nat} (h : id < 64) : nI id >>> ((3 : Int32) &&& 31) = nI (id / 8) := pk_shrN (by omega) _ 3 (by decide)
theorem pl_nib {post : Int32 → Prop} {u : St2} {m0 m1 m2 m3 : Int64} {id : Nat} (h : id < 64) (hp : post (nI (pq_code m0 m1 m2 m3 id))) : wpL_nib post u m0 m1 m2 m3 (nI id) := by
  have key : ∀ m : Int64, pq_sel m0 m1 m2 m3 (id / 16) = m → wL_nib_38 post (nI id) m := by
    intro m e
    unfold wL_nib_38
    rw [pq_nI15 h, pq_nib m (Nat.mod_lt _ (by decide)), ← e]
    exact hp
  unfold wpL_nib
  refine nm_r (pq_sh4 h) ?_
  refine pk_eq (id / 16) 0 (fun z => key _ (by unfold pq_sel; rw [if_pos z])) (fun z0 => ?_)
  refine pk_eq (id / 16) 1 (fun z => key _ (by unfold pq_sel; rw [if_neg z0, if_pos z])) (fun z1 => ?_)
  exact pk_eq (id / 16) 2 (fun z => key _ (by unfold pq_sel; rw [if_neg z0, if_neg z1, if_pos z])) (fun z2 => key _ (by unfold pq_sel; rw [if_neg z0, if_neg z1, if_neg z2]))
theorem pl_put {post : Int64 → Prop} {u : St2} {m : Int64} {id c : Nat} (h : id < 64) (hc : c < 16) (hp : post (pq_put m (id % 16) c)) : wpL_put post u m (nI id) (nI c) := by
  unfold wpL_put
  refine nm_r (pq_nI15 h) ?_
  rw [nI_l (show c < 2 ^ 31 by omega)]
  exact hp
theorem pl_dec {post : Int32 → Prop} {u : St2} {c : Nat} (hc : c < 16) (hp : post (pq_dec c)) : wpL_decode post u (nI c) := by
  unfold wpL_decode
  refine pk_eq c 1 (fun z => ?_) (fun z => ?_)
  · rw [pq_dec, if_pos z] at hp
    exact hp
  · rw [pq_dec, if_neg z] at hp
    exact hp
theorem pl_cell {post : Int32 → Prop} {LL : Nat} {xs : Nat → Int32} {u : St2} {j : Nat} (hL : LL ≤ 260) (hj : j < 2 ^ 31) (h : ∀ v, post v) : wpL_cell post LL xs u (nI j) :=
  br_c (fun _ => h _) (fun z => ⟨vp_in_nI (Nat.lt_of_not_le (fun y => z (nI_le y hj))) (by omega), h _⟩)
theorem pq_b1 : ∀ i, i < 32 → bt 1 i = decide (i = 0) := by decide +kernel
theorem pq_bit0 (x : Int32) : x &&& 1 = 0 ↔ bt x 0 = false := by
  constructor
  · intro h
    have e : bt (x &&& 1) 0 = false := by rw [h, b_0]
    rw [b_and, pq_b1 0 (by omega)] at e
    simpa using e
  · intro h
    apply b_ext
    intro i hi
    rw [b_and, pq_b1 i hi, b_0]
    by_cases z : i = 0
    · subst z
      rw [h]
      rfl
    · rw [decide_eq_false z, Bool.and_false]
theorem pq_prev (x : Int32) {t : Nat} (ht : t < 8) : (x >>> (nI t &&& 31)) &&& 1 = 0 ↔ bt x t = false := by
  rw [pq_bit0, b_sshr t (by omega) x (show 0 < 32 by omega), if_pos (by omega), Nat.add_zero]
theorem pq_set {x : Int32} {t j : Nat} (ht : t < 8) (hj : j < 32) (h : bt (x ||| ((1 : Int32) <<< (nI t &&& 31))) j = true) : bt x j = true ∨ j = t := by
  rw [b_or, b_shl t (by omega) 1 hj] at h
  by_cases e : j = t
  · exact Or.inr e
  · left
    by_cases l : t ≤ j
    · rw [pq_b1 (j - t) (by omega), decide_eq_false (show ¬ j - t = 0 by omega), Bool.and_false, Bool.or_false] at h
      exact h
    · rw [decide_eq_false l, Bool.false_and, Bool.or_false] at h
      exact h
theorem pq_s7 {s : Int32} (h : s = 0 ∨ s = 1 ∨ s = 2 ∨ s = 3 ∨ s = 4) : s &&& 7 = s := by
  rcases h with h | h | h | h | h <;> subst h <;> decide
section
variable {fc fb fw : Int32} {ca vc vt vv tt st al sg sc ky vl pl : Nat → Int32}
theorem pl_597 {post : Int32 → Prop} {LL : Nat} {xs : Nat → Int32} {J38 : Int32 → Int32 → Int32 → Int64 → Int64 → Int64 → Int64 → Int32 → Int32 → Int32 → (Nat → Int32) → (Nat → Int32) → (Nat → Int32) → (Nat → Int32) → (Nat → Int32) → (Nat → Int32) → (Nat → Int32) → (Nat → Int32) → (Nat → Int32) → (Nat → Int32) → (Nat → Int32) → (Nat → Int32) → Prop} {x2 x3 x4 x5 : Int32} {x6 x8 x10 x12 : Int64} {x14 : Int32} {kc ks : Nat} {J544 : Int32 → Int32 → Int32 → Prop} {x15 x16 x17 x18 x19 x20 z0 : Int32} (h3 : x18 = 3 → ¬ x19 = 0) (h4 : x18 = 4 → x19 = 0) (hz : ¬ z0 = 0 → ¬ x19 = 0)
    (hK : wL_law_667 post LL xs J38 J544 x2 x3 x4 x5 x6 x8 x10 x12 x14 x15 x16 x17 x18 x19 kc ks fc fb ca vc vt vv tt st al sg sc ky vl pl) : wL_law_597 post LL xs J38 J544 x2 x3 x4 x5 x6 x8 x10 x12 x14 x15 x16 x17 x18 x19 x20 z0 kc ks fc fb ca vc vt vv tt st al sg sc ky vl pl := by
  have k659 : ¬ x19 = 0 → wL_law_659 post LL xs J38 J544 x2 x3 x4 x5 x6 x8 x10 x12 x14 x15 x16 x17 x18 x19 kc ks fc fb ca vc vt vv tt st al sg sc ky vl pl := fun z => br_f (fun e => z (h4 e)) hK
  have k649 : wL_law_649 post LL xs J38 J544 x2 x3 x4 x5 x6 x8 x10 x12 x14 x15 x16 x17 x18 x19 z0 kc ks fc fb ca vc vt vv tt st al sg sc ky vl pl := br_c (fun a => br_c (fun b => hK) (fun b => k659 b)) (fun a => k659 (hz a))
  have k637 : wL_law_637 post LL xs J38 J544 x2 x3 x4 x5 x6 x8 x10 x12 x14 x15 x16 x17 x18 x19 z0 kc ks fc fb ca vc vt vv tt st al sg sc ky vl pl := br_c (fun a => k649) (fun a => br_f (hz a) k649)
  have k618 : wL_law_618 post LL xs J38 J544 x2 x3 x4 x5 x6 x8 x10 x12 x14 x15 x16 x17 x18 x19 x20 z0 kc ks fc fb ca vc vt vv tt st al sg sc ky vl pl := br_c (fun a => br_c (fun _ => k637) (fun _ => br_t (h4 a) k637)) (fun a => k637)
  exact br_c (fun a => br_c (fun _ => k618) (fun _ => br_f (h3 a) k618)) (fun _ => k618)
theorem pl_inner {post : Int32 → Prop} {LL : Nat} {xs : Nat → Int32} {J38 : Int32 → Int32 → Int32 → Int64 → Int64 → Int64 → Int64 → Int32 → Int32 → Int32 → (Nat → Int32) → (Nat → Int32) → (Nat → Int32) → (Nat → Int32) → (Nat → Int32) → (Nat → Int32) → (Nat → Int32) → (Nat → Int32) → (Nat → Int32) → (Nat → Int32) → (Nat → Int32) → (Nat → Int32) → Prop} {x2 x3 x4 x5 : Int32} {x6 x8 x10 x12 : Int64} {x14 : Int32} {kc ks : Nat} {b : Nat} {L : Nat → List (Int32 × Int32)} (hJ : pq_J b ca tt st al sg sc ky pl L) (hP : ∀ t, pq_P x5 t → pq_imp b tt sg sc pl t)
    (hk : ∀ x15 x16, (∀ t, pq_P x16 t → pq_imp b tt sg sc pl t) → J38 x3 x15 x16 x6 x8 x10 x12 (x14 + 1) (nI 8) (nI b) ca vc vt vv tt st al sg sc ky vl pl) : ∃ f, wL_law_544 post LL xs J38 x2 x3 x4 x5 x6 x8 x10 x12 x14 kc ks (nI 8) (nI b) ca vc vt vv tt st al sg sc ky vl pl f 0 0 0 := by
  refine pk_loop (σ := Int32 × Int32) (fun f i s => wL_law_544 post LL xs J38 x2 x3 x4 x5 x6 x8 x10 x12 x14 kc ks (nI 8) (nI b) ca vc vt vv tt st al sg sc ky vl pl f s.1 s.2 (nI i)) (fun _ s => ∀ t, pq_P s.2 t → pq_imp b tt sg sc pl t) 8 0 (0, 0) (by omega) ?_ ?_ ?_
  · intro t h
    have e : bt 0 t = true := h.2
    rw [b_0] at e
    exact absurd e (by decide)
  · intro f s I
    simp only [wL_law_544]
    exact br_t (nI_le (a := 8) (b := 8) (by omega) (by omega)) (nm_e (hk s.1 s.2 I))
  · intro f i s hi I hw
    obtain ⟨v, hv, v3, v4, wv⟩ := po_status (vc := vc) (vt := vt) (vv := vv) (vl := vl) hJ hi
    obtain ⟨z, hz, wz⟩ := po_imp (vc := vc) (vt := vt) (vv := vv) (vl := vl) hJ hi
    have z01 : z = 0 → ¬ pq_imp b tt sg sc pl i := by
      intro e
      rcases hz with ⟨_, y⟩ | ⟨y, _⟩
      · exact y
      · rw [e] at y
        exact absurd y (by decide)
    have z10 : ¬ z = 0 → pq_imp b tt sg sc pl i := by
      intro e
      rcases hz with ⟨y, _⟩ | ⟨_, y⟩
      · exact absurd y e
      · exact y
    have c3 : v = 3 → ¬ z = 0 := fun e y => z01 y (v3 e)
    have c4 : v = 4 → z = 0 := fun e => Classical.byContradiction (fun y => v4 e (z10 y))
    have k667 : ∀ x18, wL_law_667 post LL xs J38 (wL_law_544 post LL xs J38 x2 x3 x4 x5 x6 x8 x10 x12 x14 kc ks (nI 8) (nI b) ca vc vt vv tt st al sg sc ky vl pl f) x2 x3 x4 x5 x6 x8 x10 x12 x14 s.1 s.2 (nI i) x18 z kc ks (nI 8) (nI b) ca vc vt vv tt st al sg sc ky vl pl := by
      intro x18
      unfold wL_law_667
      refine nm_e (br_c (fun y => nm_r (nI_1 i) (hw (_, s.2) I)) (fun y => nm_e (nm_r (nI_1 i) (hw (_, _) ?_))))
      intro t ht
      rcases pq_set hi ht.1 ht.2 with g | g
      · exact I t ⟨ht.1, g⟩
      · rw [g]
        exact z10 y
    simp only [wL_law_544]
    refine br_f (nI_ge (b := 8) hi (by decide)) (wv _ (nm_r (pq_s7 hv) (wz _ (nm_e (br_c (fun a => ?_) (fun a => ?_))))))
    · exact pl_597 c3 c4 (fun y => absurd rfl y) (k667 v)
    · refine pl_597 c3 c4 (fun _ y => z01 y (hP i ⟨by omega, ?_⟩)) (k667 v)
      rw [pq_prev x5 hi] at a
      exact eq_true_of_ne_false a
end
end
section
/-! ## the law's loop -/
def pl_nx (J38 : Int32 → Int32 → Int32 → Int64 → Int64 → Int64 → Int64 → Int32 → Int32 → Int32 → (Nat → Int32) → (Nat → Int32) → (Nat → Int32) → (Nat → Int32) → (Nat → Int32) → (Nat → Int32) → (Nat → Int32) → (Nat → Int32) → (Nat → Int32) → (Nat → Int32) → (Nat → Int32) → (Nat → Int32) → Prop) (x3 x15 x16 : Int32) (x6 x8 x10 x12 : Int64) (x14 : Int32) (u : St1) : Prop := match u with
  | (fc, fb, ca, vc, vt, vv, tt, st, al, sg, sc, ky, vl, pl) => J38 x3 x15 x16 x6 x8 x10 x12 x14 fc fb ca vc vt vv tt st al sg sc ky vl pl
def pl_in (post : Int32 → Prop) (LL : Nat) (xs : Nat → Int32) (J38 : Int32 → Int32 → Int32 → Int64 → Int64 → Int64 → Int64 → Int32 → Int32 → Int32 → (Nat → Int32) → (Nat → Int32) → (Nat → Int32) → (Nat → Int32) → (Nat → Int32) → (Nat → Int32) → (Nat → Int32) → (Nat → Int32) → (Nat → Int32) → (Nat → Int32) → (Nat → Int32) → (Nat → Int32) → Prop) (x2 x3 x4 x5 : Int32) (x6 x8 x10 x12 : Int64) (x14 : Int32) (kc ks : Nat) (u : St1) : Prop := match u with
  | (fc, fb, ca, vc, vt, vv, tt, st, al, sg, sc, ky, vl, pl) => ∃ f, wL_law_544 post LL xs J38 x2 x3 x4 x5 x6 x8 x10 x12 x14 kc ks fc fb ca vc vt vv tt st al sg sc ky vl pl f 0 0 0
theorem pq_mono {M M' : Nat → Int32 → Int32 → Prop} {P : Nat → Prop} {u : St1} (h : ∀ k r a, M k r a → M' k r a) (K : pq_K M' P u) : pq_K M P u := by
  obtain ⟨b, ca, vc, vt, vv, tt, st, al, sg, sc, ky, vl, pl, L, rfl, hJ, hX, hM, hP⟩ := K
  exact ⟨_, _, _, _, _, _, _, _, _, _, _, _, _, _, rfl, hJ, hX, fun k r a hk z => hM k r a hk (h k r a z), hP⟩
theorem pl_after {post : Int32 → Prop} {LL : Nat} {xs : Nat → Int32} {J38 : Int32 → Int32 → Int32 → Int64 → Int64 → Int64 → Int64 → Int32 → Int32 → Int32 → (Nat → Int32) → (Nat → Int32) → (Nat → Int32) → (Nat → Int32) → (Nat → Int32) → (Nat → Int32) → (Nat → Int32) → (Nat → Int32) → (Nat → Int32) → (Nat → Int32) → (Nat → Int32) → (Nat → Int32) → Prop} {x2 x3 x4 x5 : Int32} {x6 x8 x10 x12 : Int64} {x14 : Int32} {kc ks : Nat} {u : St1} (K : pq_K (pq_M x6 x8 x10 x12) (pq_P x5) u)
    (hk : ∀ x15 x16, pq_K (pq_M x6 x8 x10 x12) (pq_P x16) u → pl_nx J38 x3 x15 x16 x6 x8 x10 x12 (x14 + 1) u) : pl_in post LL xs J38 x2 x3 x4 x5 x6 x8 x10 x12 x14 kc ks u := by
  obtain ⟨b, ca, vc, vt, vv, tt, st, al, sg, sc, ky, vl, pl, L, rfl, hJ, hX, hM, hP⟩ := K
  exact pl_inner hJ hP (fun x15 x16 h => hk x15 x16 ⟨_, _, _, _, _, _, _, _, _, _, _, _, _, _, rfl, hJ, hX, hM, h⟩)
section
variable {fc fb fw : Int32} {ca vc vt vv tt st al sg sc ky vl pl : Nat → Int32}
theorem pl_403 {post : Int32 → Prop} {LL : Nat} {xs : Nat → Int32} {J38 : Int32 → Int32 → Int32 → Int64 → Int64 → Int64 → Int64 → Int32 → Int32 → Int32 → (Nat → Int32) → (Nat → Int32) → (Nat → Int32) → (Nat → Int32) → (Nat → Int32) → (Nat → Int32) → (Nat → Int32) → (Nat → Int32) → (Nat → Int32) → (Nat → Int32) → (Nat → Int32) → (Nat → Int32) → Prop} {x2 x3 x4 x5 : Int32} {x6 x8 x10 x12 : Int64} {x14 : Int32} {kc ks : Nat} {k p c : Nat} {r : Int32} (hk8 : k < 8) (hp8 : p < 8) (hc : c < 16) (hd : pq_dec c = r) (hr : ¬ r = -10)
    (K : pq_K (fun k' s a => pq_M x6 x8 x10 x12 k' s a ∨ (k' = k ∧ s = nI (p + 1) ∧ a = r ∧ ¬ r = -10)) (pq_P x5) (fc, fb, ca, vc, vt, vv, tt, st, al, sg, sc, ky, vl, pl))
    (hk : ∀ x15 x16 m0 m1 m2 m3, pq_K (pq_M m0 m1 m2 m3) (pq_P x16) (fc, fb, ca, vc, vt, vv, tt, st, al, sg, sc, ky, vl, pl) → pl_nx J38 x3 x15 x16 m0 m1 m2 m3 (x14 + 1) (fc, fb, ca, vc, vt, vv, tt, st, al, sg, sc, ky, vl, pl)) :
    wL_law_403 post LL xs J38 x2 x3 x4 x5 x6 x8 x10 x12 x14 (nI (k * 8 + p)) (nI c) kc ks fc fb ca vc vt vv tt st al sg sc ky vl pl := by
  have hid : k * 8 + p < 64 := by omega
  have fin : ∀ m0 m1 m2 m3, (∀ w, w < 4 → pq_sel m0 m1 m2 m3 w = if w = (k * 8 + p) / 16 then pq_put (pq_sel x6 x8 x10 x12 w) ((k * 8 + p) % 16) c else pq_sel x6 x8 x10 x12 w) → pq_K (pq_M m0 m1 m2 m3) (pq_P x5) (fc, fb, ca, vc, vt, vv, tt, st, al, sg, sc, ky, vl, pl) := by
    intro m0 m1 m2 m3 hs
    have hcd := pq_code_put hid hc hs
    refine pq_mono (fun k' s a z => ?_) K
    obtain ⟨p', z1, z2, z3, z4, z5⟩ := z
    rw [hcd (k' * 8 + p') (by omega)] at z4 z5
    by_cases e : k' * 8 + p' = k * 8 + p
    · rw [if_pos e] at z5
      have ek : k' = k := by omega
      have ep : p' = p := by omega
      subst ek ep
      exact Or.inr ⟨rfl, z3, z5.trans hd, hr⟩
    · rw [if_neg e] at z4 z5
      exact Or.inl ⟨p', z1, z2, z3, z4, z5⟩
  unfold wL_law_403
  refine nm_r (pq_sh4 hid) ?_
  have w4 : ∀ w, w < 4 → w = 0 ∨ w = 1 ∨ w = 2 ∨ w = 3 := by intro w hw; omega
  refine pk_eq ((k * 8 + p) / 16) 0 (fun z => pl_put hid hc (pl_after (fin _ _ _ _ ?_) (fun x15 x16 h => hk x15 x16 _ _ _ _ h))) (fun z0 => ?_)
  · intro w hw
    rw [z]
    rcases w4 w hw with e | e | e | e <;> subst e <;> rfl
  refine pk_eq ((k * 8 + p) / 16) 1 (fun z => pl_put hid hc (pl_after (fin _ _ _ _ ?_) (fun x15 x16 h => hk x15 x16 _ _ _ _ h))) (fun z1 => ?_)
  · intro w hw
    rw [z]
    rcases w4 w hw with e | e | e | e <;> subst e <;> rfl
  refine pk_eq ((k * 8 + p) / 16) 2 (fun z => pl_put hid hc (pl_after (fin _ _ _ _ ?_) (fun x15 x16 h => hk x15 x16 _ _ _ _ h))) (fun z2 => pl_put hid hc (pl_after (fin _ _ _ _ ?_) (fun x15 x16 h => hk x15 x16 _ _ _ _ h)))
  · intro w hw
    rw [z]
    rcases w4 w hw with e | e | e | e <;> subst e <;> rfl
  · intro w hw
    have z3 : (k * 8 + p) / 16 = 3 := by omega
    rw [z3]
    rcases w4 w hw with e | e | e | e <;> subst e <;> rfl
theorem pl_read {x5 : Int32} {x6 x8 x10 x12 : Int64} {k p : Nat} (hk8 : k < 8) (hp8 : p < 8) (K : pq_K (pq_M x6 x8 x10 x12) (pq_P x5) (fc, fb, ca, vc, vt, vv, tt, st, al, sg, sc, ky, vl, pl)) {Q : Int32 → St1 → Prop}
    (hQ : ∀ r u', pq_K (fun k' s a => pq_M x6 x8 x10 x12 k' s a ∨ (k' = k ∧ s = nI (p + 1) ∧ a = r ∧ ¬ r = -10)) (pq_P x5) u' → (¬ pq_code x6 x8 x10 x12 (k * 8 + p) = 0 → r = pq_dec (pq_code x6 x8 x10 x12 (k * 8 + p))) → Q r u') : wpX_read Q (fc, fb, ca, vc, vt, vv, tt, st, al, sg, sc, ky, vl, pl) (nI k) (nI (p + 1)) :=
  po_read K (by omega) (nI_nlt (b := 1) (by omega) (by omega)) (nI_nlt (a := 1000000) (by omega) (by decide)) (fun r u' K' hr => hQ r u' K' (fun hc => hr _ ⟨p, hk8, hp8, rfl, hc, rfl⟩))
theorem pl_115 {post : Int32 → Prop} {LL : Nat} {xs : Nat → Int32} {J38 : Int32 → Int32 → Int32 → Int64 → Int64 → Int64 → Int64 → Int32 → Int32 → Int32 → (Nat → Int32) → (Nat → Int32) → (Nat → Int32) → (Nat → Int32) → (Nat → Int32) → (Nat → Int32) → (Nat → Int32) → (Nat → Int32) → (Nat → Int32) → (Nat → Int32) → (Nat → Int32) → (Nat → Int32) → Prop} {x2 x3 x4 x5 : Int32} {x6 x8 x10 x12 : Int64} {x14 : Int32} {kc ks : Nat} {x16 x17 x18 x19 z0 : Int32} (K : pq_K (pq_M x6 x8 x10 x12) (pq_P x5) (fc, fb, ca, vc, vt, vv, tt, st, al, sg, sc, ky, vl, pl))
    (hk : ∀ x3 x15 x16 m0 m1 m2 m3 u', pq_K (pq_M m0 m1 m2 m3) (pq_P x16) u' → pl_nx J38 x3 x15 x16 m0 m1 m2 m3 (x14 + 1) u') : wL_law_115 post LL xs J38 x2 x3 x4 x5 x6 x8 x10 x12 x14 x16 x17 x18 x19 z0 kc ks fc fb ca vc vt vv tt st al sg sc ky vl pl := by
  unfold wL_law_115
  refine nm_e (br_c (fun _ => br_c (fun _ => br_c (fun _ => po_stage K _ (fun r u' K' => by obtain ⟨fc, fb, ca, vc, vt, vv, tt, st, al, sg, sc, ky, vl, pl⟩ := u'; exact pl_after K' (fun x15 x16 h => hk _ _ _ _ _ _ _ _ h))) (fun _ => br_c (fun _ => br_c (fun _ => po_finalize K _ (fun r u' K' => by obtain ⟨fc, fb, ca, vc, vt, vv, tt, st, al, sg, sc, ky, vl, pl⟩ := u'; exact pl_after K' (fun x15 x16 h => hk _ _ _ _ _ _ _ _ h))) (fun _ => br_c (fun _ => po_rollback K _ (fun r u' K' => by obtain ⟨fc, fb, ca, vc, vt, vv, tt, st, al, sg, sc, ky, vl, pl⟩ := u'; exact pl_after K' (fun x15 x16 h => hk _ _ _ _ _ _ _ _ h))) (fun _ => br_c (fun _ => po_crash K _ (fun r u' K' => by obtain ⟨fc, fb, ca, vc, vt, vv, tt, st, al, sg, sc, ky, vl, pl⟩ := u'; exact pl_after K' (fun x15 x16 h => hk _ _ _ _ _ _ _ _ h))) (fun _ => br_c (fun _ => po_probe K _ _ (fun r u' K' => by obtain ⟨fc, fb, ca, vc, vt, vv, tt, st, al, sg, sc, ky, vl, pl⟩ := u'; exact pl_after K' (fun x15 x16 h => hk _ _ _ _ _ _ _ _ h))) (fun _ => br_c (fun _ => po_recover K _ (fun r u' K' => by obtain ⟨fc, fb, ca, vc, vt, vv, tt, st, al, sg, sc, ky, vl, pl⟩ := u'; exact pl_after K' (fun x15 x16 h => hk _ _ _ _ _ _ _ _ h))) (fun _ => ?_)))))) (fun _ => po_deliver K _ _ (fun r u' K' => by obtain ⟨fc, fb, ca, vc, vt, vv, tt, st, al, sg, sc, ky, vl, pl⟩ := u'; exact pl_after K' (fun x15 x16 h => hk _ _ _ _ _ _ _ _ h))))) (fun _ => po_addWrite K _ _ _ (fun r u' K' => by obtain ⟨fc, fb, ca, vc, vt, vv, tt, st, al, sg, sc, ky, vl, pl⟩ := u'; exact pl_after K' (fun x15 x16 h => hk _ _ _ _ _ _ _ _ h)))) (fun _ => po_begin K _ (fun r u' K' => by obtain ⟨fc, fb, ca, vc, vt, vv, tt, st, al, sg, sc, ky, vl, pl⟩ := u'; exact br_c (fun _ => pl_after K' (fun x15 x16 h => hk _ _ _ _ _ _ _ _ h)) (fun _ => nm_e (pl_after K' (fun x15 x16 h => hk _ _ _ _ _ _ _ _ h))))))
  obtain ⟨k, hk8, ek⟩ := pq_and7 x17
  obtain ⟨p, hp8, ep⟩ := pq_and7 x18
  have e1 : 1 + (x18 &&& 7) = nI (p + 1) := by
    rw [ep, Nat.add_comm]
    exact nI_add 1 p
  have e2 : nI k * 8 + nI (p + 1) - 1 = nI (k * 8 + p) := by
    rw [pc_m8, nI_add]
    exact nI_pred (k * 8 + p)
  refine nm_r ek (nm_r e1 (nm_r e2 (pl_read hk8 hp8 K (fun r u' K' hr => ?_))))
  obtain ⟨fc, fb, ca, vc, vt, vv, tt, st, al, sg, sc, ky, vl, pl⟩ := u'
  have hid : k * 8 + p < 64 := by omega
  have K0 := pq_mono (M := pq_M x6 x8 x10 x12) (fun k r a z => Or.inl z) K'
  have hc16 : pq_code x6 x8 x10 x12 (k * 8 + p) < 16 := pq_nb_lt _ _
  refine pl_nib hid (pk_eq _ 0 (fun hz => ?_) (fun hz => ?_))
  · have c9 : r = -9 → wL_law_388 post LL xs J38 x2 x3 x4 x5 x6 x8 x10 x12 x14 (nI (k * 8 + p)) r kc ks fc fb ca vc vt vv tt st al sg sc ky vl pl := by
      intro e
      exact br_t e (pl_403 (c := 1) hk8 hp8 (by omega) (by rw [e]; rfl) (by rw [e]; decide) K' (fun x15 x16 _ _ _ _ h => hk _ _ _ _ _ _ _ _ h))
    refine br_c c9 (fun n9 => br_c (fun _ => pl_after K0 (fun x15 x16 h => hk _ _ _ _ _ _ _ _ h)) (fun n0 => br_c (fun _ => pl_after K0 (fun x15 x16 h => hk _ _ _ _ _ _ _ _ h)) (fun n3 => ?_)))
    obtain ⟨v, hv, ev⟩ := nI_of2 (x := r) (M := 3) (n := 3) (by decide) n0 (Int32.not_lt.mp n3)
    subst ev
    have e2 : nI v + 2 = nI (v + 2) := nI_add v 2
    refine br_f n9 ?_
    rw [e2]
    refine pl_403 (c := v + 2) hk8 hp8 (by omega) ?_ ?_ K' (fun x15 x16 _ _ _ _ h => hk _ _ _ _ _ _ _ _ h)
    · unfold pq_dec
      rw [if_neg (by omega)]
      exact pk_sub (a := v + 2) (b := 2) (by omega)
    · intro e
      have := nI_pos (n := v) (by omega)
      rw [e] at this
      exact this (by decide)
  · exact pl_dec hc16 (br_t (hr hz) (pl_after K0 (fun x15 x16 h => hk _ _ _ _ _ _ _ _ h)))
end
end
section
/-! ## the law -/
def pl_W (post : Int32 → Prop) (LL : Nat) (xs : Nat → Int32) (x2 : Int32) (kc ks f i : Nat) (s : Int32 × Int32 × Int32 × Int64 × Int64 × Int64 × Int64 × St1) : Prop := match s with
  | (x3, x4, x5, x6, x8, x10, x12, (fc, fb, ca, vc, vt, vv, tt, st, al, sg, sc, ky, vl, pl)) => wL_law_38 post LL xs x2 kc ks f x3 x4 x5 x6 x8 x10 x12 (nI i) fc fb ca vc vt vv tt st al sg sc ky vl pl
def pl_I (s : Int32 × Int32 × Int32 × Int64 × Int64 × Int64 × Int64 × St1) : Prop := match s with
  | (_, _, x5, x6, x8, x10, x12, u) => pq_K (pq_M x6 x8 x10 x12) (pq_P x5) u
theorem pq_64 (n : Nat) : nI n + 64 = nI (n + 64) := nI_add n 64
theorem pq_4i (i : Nat) : 4 * nI i = nI (4 * i) := by rw [pc_4, pk_mul]
theorem pl_loop {post : Int32 → Prop} {LL n : Nat} {xs : Nat → Int32} {kc ks : Nat} (hL : LL ≤ 260) (hn : n ≤ 65) (h1 : post 1) (s : Int32 × Int32 × Int32 × Int64 × Int64 × Int64 × Int64 × St1) (hI : pl_I s) : ∃ f, pl_W post LL xs (nI n) kc ks f 0 s := by
  refine pk_loop (σ := Int32 × Int32 × Int32 × Int64 × Int64 × Int64 × Int64 × St1) (fun f i s => pl_W post LL xs (nI n) kc ks f i s) (fun _ s => pl_I s) (n + 64) 0 s (by omega) hI ?_ ?_
  · intro f s I
    obtain ⟨x3, x4, x5, x6, x8, x10, x12, fc, fb, ca, vc, vt, vv, tt, st, al, sg, sc, ky, vl, pl⟩ := s
    show wL_law_38 post LL xs (nI n) kc ks (f + 1) x3 x4 x5 x6 x8 x10 x12 (nI (n + 64)) fc fb ca vc vt vv tt st al sg sc ky vl pl
    simp only [wL_law_38, pq_64]
    exact br_t (nI_le (Nat.le_refl _) (by omega)) h1
  · intro f i s hi I hw
    obtain ⟨x3, x4, x5, x6, x8, x10, x12, fc, fb, ca, vc, vt, vv, tt, st, al, sg, sc, ky, vl, pl⟩ := s
    have K : pq_K (pq_M x6 x8 x10 x12) (pq_P x5) (fc, fb, ca, vc, vt, vv, tt, st, al, sg, sc, ky, vl, pl) := I
    have hk : ∀ x3 x15 x16 m0 m1 m2 m3 u', pq_K (pq_M m0 m1 m2 m3) (pq_P x16) u' → pl_nx (wL_law_38 post LL xs (nI n) kc ks f) x3 x15 x16 m0 m1 m2 m3 (nI i + 1) u' := by
      intro x3 x15 x16 m0 m1 m2 m3 u' K'
      rw [nI_1]
      have a := hw (x3, x15, x16, m0, m1, m2, m3, u') K'
      obtain ⟨fc, fb, ca, vc, vt, vv, tt, st, al, sg, sc, ky, vl, pl⟩ := u'
      exact a
    show wL_law_38 post LL xs (nI n) kc ks (f + 1) x3 x4 x5 x6 x8 x10 x12 (nI i) fc fb ca vc vt vv tt st al sg sc ky vl pl
    unfold wL_law_38
    rw [pq_64]
    refine br_f (nI_ge hi (by omega)) (pk_le n i (fun hni => nm_r (pk_sub hni) ?_) (fun hni => nm_r (pq_4i i) ?_))
    · have hid : i - n < 64 := by omega
      have hd : (i - n) / 8 * 8 + (i - n) % 8 = i - n := by omega
      have hc16 : pq_code x6 x8 x10 x12 (i - n) < 16 := pq_nb_lt _ _
      refine pl_nib hid (pk_eq _ 0 (fun hz => pl_after K (fun x15 x16 h => hk _ _ _ _ _ _ _ _ h)) (fun hz => ?_))
      have e7 : (nI (i - n) &&& 7) + 1 = nI ((i - n) % 8 + 1) := by
        rw [show nI (i - n) &&& 7 = nI ((i - n) % 2 ^ 3) from pk_andN (by omega) 3 (by decide)]
        exact nI_1 _
      rw [pq_sh3 hid, e7]
      refine pl_read (by omega) (Nat.mod_lt _ (by decide)) K (fun r u' K' hr => ?_)
      rw [hd] at hr
      have K0 := pq_mono (M := pq_M x6 x8 x10 x12) (fun k r a z => Or.inl z) K'
      obtain ⟨fc, fb, ca, vc, vt, vv, tt, st, al, sg, sc, ky, vl, pl⟩ := u'
      exact pl_dec hc16 (br_t (hr hz) (pl_after K0 (fun x15 x16 h => hk _ _ _ _ _ _ _ _ h)))
    · refine pl_cell hL (by omega) (fun v0 => nm_e ?_)
      have e1 : nI (4 * i) + 1 = nI (4 * i + 1) := nI_add (4 * i) 1
      have e2 : nI (4 * i) + 2 = nI (4 * i + 2) := nI_add (4 * i) 2
      have e3 : nI (4 * i) + 3 = nI (4 * i + 3) := nI_add (4 * i) 3
      rw [e1, e2, e3]
      refine pl_cell hL (by omega) (fun v1 => pl_cell hL (by omega) (fun v2 => pl_cell hL (by omega) (fun v3 => ?_)))
      exact br_c (fun _ => pl_115 K hk) (fun z => ⟨fun e => z (by rw [e]; exact Int32.le_refl _), pl_115 K hk⟩)
theorem pl_K0 : pq_K (pq_M 0 0 0 0) (pq_P 0) (8, 0, (fun _ => 0), (fun _ => 0), (fun _ => 0), (fun _ => 0), (fun _ => 0), (fun _ => 0), (fun _ => 0), (fun _ => 0), (fun _ => 0), (fun _ => 0), (fun _ => 0), (fun _ => 0)) := by
  refine ⟨0, _, _, _, _, _, _, _, _, _, _, _, _, fun _ => [], rfl, ⟨⟨0, pc_Inv0 (by omega)⟩, fun i => (by decide : (0 : Int32) ≤ 1000000), fun i => (by decide : (0 : Int32) ≤ 1000000), fun t z => absurd z (Nat.not_lt_zero t), fun q p z => absurd z (List.not_mem_nil), fun t z => absurd z (Nat.not_lt_zero t), fun t z => absurd z (Nat.not_lt_zero t), fun t z => absurd z (Nat.not_lt_zero t), fun t z => absurd z (Nat.not_lt_zero t), fun k t i s j z => ?_⟩, fun q _ => ⟨0, by omega, nI_0.symm, rfl⟩, fun k r a _ z => ?_, fun t z => ?_⟩
  · rcases z.1 with y | y
    · exact absurd (show (0 : Int32) = 1 from y) (by decide)
    · exact absurd (show (0 : Int32) = 2 from y) (by decide)
  · obtain ⟨p, z1, z2, z3, z4, z5⟩ := z
    refine absurd ?_ z4
    have e : ∀ w, pq_sel 0 0 0 0 w = 0 := by
      intro w
      unfold pq_sel
      split
      · rfl
      · split
        · rfl
        · split <;> rfl
    unfold pq_code
    rw [e]
    exact pq_nb_0 _
  · have e : bt 0 t = true := z.2
    rw [b_0] at e
    exact absurd e (by decide)
theorem i_vc (xs : Nat → Int32) (L : Nat) (hL : L ≤ 260) : wpL_law (fun r => r = 1) L xs := by
  have hd : nI L / 4 = nI (L / 4) := pk_div (d := 4) (by omega) (by omega) (by omega)
  unfold wpL_law
  refine ⟨12, 424, by omega, by omega, ?_⟩
  unfold wpX_init
  refine ⟨by omega, by omega, by omega, by omega, by omega, by omega, by omega, by omega, by omega, by omega, by omega, by omega, by omega, by omega, by omega, by omega, by omega, by omega, by omega, by omega, by omega, by omega, by omega, by omega, br_t (by decide) (br_t (by decide) ⟨by decide, nm_r hd ?_⟩)⟩
  exact pl_loop (post := fun r => r = 1) (xs := xs) (n := L / 4) hL (by omega) rfl (0, 0, 0, 0, 0, 0, 0, _) pl_K0
end
