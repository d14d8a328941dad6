/-! ## numbers -/
theorem pc_4 : (4 : Int32) = nI 4 := by decide +kernel
theorem pc_8 : (8 : Int32) = nI 8 := by decide +kernel
theorem pc_16 : (16 : Int32) = nI 16 := by decide +kernel
theorem pc_32 : (32 : Int32) = nI 32 := by decide +kernel
theorem pc_cell (t i : Nat) : nI t * 4 + nI i = nI (t * 4 + i) := by rw [pc_4, pk_mul, nI_add]
theorem pc_m4 (t : Nat) : nI t * 4 = nI (t * 4) := by rw [pc_4, pk_mul]
theorem pc_m8 (q : Nat) : nI q * 8 = nI (q * 8) := by rw [pc_8, pk_mul]
/-- an argument against a bound: negative, too large, or a natural below -/
theorem pc_ix (x : Int32) (b : Nat) (hb : b < 2 ^ 31) : (x < 0 ∧ ¬ 0 ≤ x) ∨ (¬ x < 0 ∧ 0 ≤ x ∧ ¬ x < nI b ∧ nI b ≤ x) ∨ ∃ t, t < b ∧ x = nI t := by
  by_cases h : x < 0
  · exact Or.inl ⟨h, Int32.not_le.mpr h⟩
  · obtain ⟨j, hj, rfl⟩ := nI_of h
    by_cases h2 : j < b
    · exact Or.inr (Or.inr ⟨j, h2, rfl⟩)
    · exact Or.inr (Or.inl ⟨h, Int32.not_lt.mp h, nI_nlt (by omega) hj, nI_le (by omega) hj⟩)
theorem pc_nI_lt {a b : Nat} (h : a < b) (hb : b < 2 ^ 31) : nI a < nI b ∧ ¬ nI b ≤ nI a ∧ ¬ nI a < 0 ∧ 0 ≤ nI a :=
  ⟨nI_lt h hb, nI_ge h hb, nI_pos (by omega), nI_pos' (by omega)⟩
/-! ## counting the committed -/
def pc_cn (st : Nat → Int32) : Nat → Nat
  | 0 => 0
  | n + 1 => pc_cn st n + (if st n = 3 then 1 else 0)
theorem pc_cn_le (st : Nat → Int32) (n : Nat) : pc_cn st n ≤ n := by
  induction n with
  | zero => exact Nat.le_refl 0
  | succ n ih =>
    show pc_cn st n + (if st n = 3 then 1 else 0) ≤ n + 1
    split <;> omega
theorem pc_cn_lt {st : Nat → Int32} {t : Nat} (h3 : ¬ st t = 3) : ∀ n, t < n → pc_cn st n < n := by
  intro n
  induction n with
  | zero => intro h; omega
  | succ n ih =>
    intro h
    show pc_cn st n + (if st n = 3 then 1 else 0) < n + 1
    by_cases e : t = n
    · subst e
      rw [if_neg h3]
      have := pc_cn_le st t
      omega
    · have := ih (by omega)
      split <;> omega
theorem pc_cn_out {st : Nat → Int32} {t : Nat} {x : Int32} : ∀ n, n ≤ t → pc_cn (upd st t x) n = pc_cn st n := by
  intro n
  induction n with
  | zero => intro _; rfl
  | succ n ih =>
    intro h
    show pc_cn (upd st t x) n + (if upd st t x n = 3 then 1 else 0) = pc_cn st n + (if st n = 3 then 1 else 0)
    rw [ih (by omega), pk_un (by omega)]
theorem pc_cn_keep {st : Nat → Int32} {t : Nat} {x : Int32} (h : ¬ st t = 3) (hx : ¬ x = 3) (n : Nat) : pc_cn (upd st t x) n = pc_cn st n := by
  induction n with
  | zero => rfl
  | succ n ih =>
    show pc_cn (upd st t x) n + (if upd st t x n = 3 then 1 else 0) = pc_cn st n + (if st n = 3 then 1 else 0)
    rw [ih]
    by_cases e : n = t
    · subst e
      rw [pk_us, if_neg hx, if_neg h]
    · rw [pk_un e]
theorem pc_cn_up {st : Nat → Int32} {t : Nat} (h : ¬ st t = 3) : ∀ n, t < n → pc_cn (upd st t 3) n = pc_cn st n + 1 := by
  intro n
  induction n with
  | zero => intro z; omega
  | succ n ih =>
    intro z
    show pc_cn (upd st t 3) n + (if upd st t 3 n = 3 then 1 else 0) = pc_cn st n + (if st n = 3 then 1 else 0) + 1
    by_cases e : n = t
    · subst e
      rw [pk_us, if_pos rfl, if_neg h, pc_cn_out n (Nat.le_refl n)]
    · rw [pk_un e, ih (by omega)]
      omega
/-! ## versions: the lists both sides keep -/
def pc_xl (vt vv : Nat → Int32) (q : Nat) : Nat → List (Int32 × Int32)
  | 0 => []
  | n + 1 => pc_xl vt vv q n ++ [(vt (q * 8 + n), vv (q * 8 + n))]
def pc_yl (wk wt wv : Nat → Int32) (k : Int32) : Nat → List (Int32 × Int32)
  | 0 => []
  | n + 1 => if wk n = k then pc_yl wk wt wv k n ++ [(wt n, wv n)] else pc_yl wk wt wv k n
def pc_ap (L : Nat → List (Int32 × Int32)) (k ts v : Int32) : Nat → List (Int32 × Int32) :=
  fun q => if k = nI q then L q ++ [(ts, v)] else L q
/-- the lists after the first i writes of the transaction whose cells begin at c -/
def pc_cm (key val : Nat → Int32) (ts : Int32) (c : Nat) (L : Nat → List (Int32 × Int32)) : Nat → Nat → List (Int32 × Int32)
  | 0 => L
  | i + 1 => pc_ap (pc_cm key val ts c L i) (key (c + i)) ts (val (c + i))
/-- the floor's step and the read's step -/
def pc_g (f : Int32) (p : Int32 × Int32) : Int32 := if p.1 ≤ f then f else p.1
def pc_rd (ts : Int32) (a : Int32) (p : Int32 × Int32) : Int32 := if ts < p.1 then a else p.2
def pc_XV (vc vt vv : Nat → Int32) (L : Nat → List (Int32 × Int32)) : Prop :=
  ∀ q, q < 16 → ∃ n, n ≤ 8 ∧ vc q = nI n ∧ pc_xl vt vv q n = L q
def pc_YV (wk wt wv : Nat → Int32) (w : Nat) (L : Nat → List (Int32 × Int32)) : Prop :=
  ∀ q, q < 16 → pc_yl wk wt wv (nI q) w = L q
theorem pc_xl_len (vt vv : Nat → Int32) (q n : Nat) : (pc_xl vt vv q n).length = n := by
  induction n with
  | zero => rfl
  | succ n ih =>
    show (pc_xl vt vv q n ++ [(vt (q * 8 + n), vv (q * 8 + n))]).length = n + 1
    rw [List.length_append, ih]
    rfl
theorem pc_xl_un {vt vv : Nat → Int32} {q c : Nat} {x y : Int32} : ∀ n, (∀ j, j < n → q * 8 + j ≠ c) → pc_xl (upd vt c x) (upd vv c y) q n = pc_xl vt vv q n := by
  intro n
  induction n with
  | zero => intro _; rfl
  | succ n ih =>
    intro h
    show pc_xl (upd vt c x) (upd vv c y) q n ++ [(upd vt c x (q * 8 + n), upd vv c y (q * 8 + n))] = _
    rw [ih (fun j hj => h j (by omega)), pk_un (h n (by omega)), pk_un (h n (by omega))]
    rfl
theorem pc_yl_un {wk wt wv : Nat → Int32} {w : Nat} {k x y z : Int32} : ∀ n, n ≤ w → pc_yl (upd wk w x) (upd wt w y) (upd wv w z) k n = pc_yl wk wt wv k n := by
  intro n
  induction n with
  | zero => intro _; rfl
  | succ n ih =>
    intro h
    show (if upd wk w x n = k then pc_yl (upd wk w x) (upd wt w y) (upd wv w z) k n ++ [(upd wt w y n, upd wv w z n)] else pc_yl (upd wk w x) (upd wt w y) (upd wv w z) k n) = _
    rw [ih (by omega), pk_un (by omega), pk_un (by omega), pk_un (by omega)]
    rfl
theorem pc_XV_ap {vc vt vv : Nat → Int32} {L : Nat → List (Int32 × Int32)} {q n : Nat} {ts v : Int32} (h : pc_XV vc vt vv L) (hq : q < 16) (hn : vc q = nI n) (h8 : n < 8) :
    pc_XV (upd vc q (nI (n + 1))) (upd vt (q * 8 + n) ts) (upd vv (q * 8 + n) v) (pc_ap L (nI q) ts v) := by
  intro p hp
  obtain ⟨m, hm, e, l⟩ := h p hp
  by_cases z : p = q
  · subst z
    have em : m = n := by
      rw [e] at hn
      exact (nI_eq (by omega) (by omega)).mp hn
    subst em
    refine ⟨m + 1, by omega, pk_us, ?_⟩
    show pc_xl (upd vt (p * 8 + m) ts) (upd vv (p * 8 + m) v) p m ++ [(upd vt (p * 8 + m) ts (p * 8 + m), upd vv (p * 8 + m) v (p * 8 + m))] = (if nI p = nI p then L p ++ [(ts, v)] else L p)
    rw [pc_xl_un m (fun j hj => by omega), pk_us, pk_us, if_pos rfl, l]
  · refine ⟨m, hm, by rw [pk_un z, e], ?_⟩
    show _ = (if nI q = nI p then L p ++ [(ts, v)] else L p)
    rw [pc_xl_un m (fun j hj => by omega), if_neg (fun t => z ((nI_eq (by omega) (by omega)).mp t).symm), l]
theorem pc_YV_ap {wk wt wv : Nat → Int32} {w : Nat} {L : Nat → List (Int32 × Int32)} {k ts v : Int32} (h : pc_YV wk wt wv w L) :
    pc_YV (upd wk w k) (upd wt w ts) (upd wv w v) (w + 1) (pc_ap L k ts v) := by
  intro q hq
  show (if upd wk w k w = nI q then pc_yl (upd wk w k) (upd wt w ts) (upd wv w v) (nI q) w ++ [(upd wt w ts w, upd wv w v w)] else pc_yl (upd wk w k) (upd wt w ts) (upd wv w v) (nI q) w) = (if k = nI q then L q ++ [(ts, v)] else L q)
  rw [pc_yl_un w (Nat.le_refl w), pk_us, pk_us, pk_us, h q hq]
theorem pc_cm_un {key val : Nat → Int32} {ts : Int32} {c q : Nat} {L : Nat → List (Int32 × Int32)} : ∀ i, (∀ j, j < i → ¬ key (c + j) = nI q) → pc_cm key val ts c L i q = L q := by
  intro i
  induction i with
  | zero => intro _; rfl
  | succ i ih =>
    intro h
    show (if key (c + i) = nI q then pc_cm key val ts c L i q ++ [(ts, val (c + i))] else pc_cm key val ts c L i q) = L q
    rw [if_neg (h i (by omega)), ih (fun j hj => h j (by omega))]
theorem pc_cm_len {key val : Nat → Int32} {ts : Int32} {c q n : Nat} {L : Nat → List (Int32 × Int32)} (hd : ∀ i j, i < j → j < n → ¬ key (c + i) = key (c + j)) :
    ∀ i, i ≤ n → (pc_cm key val ts c L i q).length ≤ (L q).length + 1 := by
  intro i
  induction i with
  | zero => intro _; exact Nat.le_succ _
  | succ i ih =>
    intro h
    show (if key (c + i) = nI q then pc_cm key val ts c L i q ++ [(ts, val (c + i))] else pc_cm key val ts c L i q).length ≤ _
    by_cases e : key (c + i) = nI q
    · rw [if_pos e, pc_cm_un i (fun j hj z => hd j i hj (by omega) (z.trans e.symm)), List.length_append]
      exact Nat.le_refl _
    · rw [if_neg e]
      exact ih (by omega)
