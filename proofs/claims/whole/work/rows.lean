section
theorem pk_us {f : Nat → Int32} {k : Nat} {x : Int32} : upd f k x k = x := if_pos rfl
theorem pk_un {f : Nat → Int32} {k j : Nat} {x : Int32} (h : j ≠ k) : upd f k x j = f j := if_neg h
theorem pk_sub {a b : Nat} (h : b ≤ a) : nI a - nI b = nI (a - b) := by
  obtain ⟨c, rfl⟩ : ∃ c, a = c + b := ⟨a - b, by omega⟩
  rw [← nI_add, Int32.add_sub_cancel, Nat.add_sub_cancel]
theorem pk_mul (a b : Nat) : nI a * nI b = nI (a * b) := (Int32.ofNat_mul a b).symm
theorem pk_div {a d : Nat} (ha : a < 2 ^ 31) (h0 : 0 < d) (hd : d < 2 ^ 31) : nI a / nI d = nI (a / d) := by
  apply Int32.toInt_inj.mp
  rw [lg_idiv_nonneg (by rw [nI_toInt ha]; omega) (by rw [nI_toInt hd]; omega), nI_toInt ha, nI_toInt hd, nI_toInt (Nat.lt_of_le_of_lt (Nat.div_le_self a d) ha)]
  first | rfl | exact (Int.natCast_ediv _ _).symm
theorem pk_ix (x : Int32) {n : Nat} (hn : n < 2 ^ 31) : x < 0 ∨ nI n ≤ x ∨ ∃ j : Nat, j < n ∧ x = nI j := by
  by_cases h : x < 0
  · exact Or.inl h
  · obtain ⟨j, hj, rfl⟩ := nI_of h
    by_cases h2 : j < n
    · exact Or.inr (Or.inr ⟨j, h2, rfl⟩)
    · exact Or.inr (Or.inl (nI_le (by omega) hj))
theorem pk_le {x y : Int32} {A B : Prop} (a b : Nat) (f : a ≤ b → A) (g : b < a → B) (hx : x = nI a := by rfl) (hy : y = nI b := by rfl) (ha : a < 2 ^ 31 := by omega) (hb : b < 2 ^ 31 := by omega) : (x ≤ y → A) ∧ (¬ x ≤ y → B) := by
  subst hx hy
  rw [nI_leI ha hb]
  exact ⟨f, fun z => g (by omega)⟩
theorem pk_lt {x y : Int32} {A B : Prop} (a b : Nat) (f : a < b → A) (g : b ≤ a → B) (hx : x = nI a := by rfl) (hy : y = nI b := by rfl) (ha : a < 2 ^ 31 := by omega) (hb : b < 2 ^ 31 := by omega) : (x < y → A) ∧ (¬ x < y → B) := by
  subst hx hy
  rw [nI_ltI ha hb]
  exact ⟨f, fun z => g (by omega)⟩
theorem pk_eq {x y : Int32} {A B : Prop} (a b : Nat) (f : a = b → A) (g : a ≠ b → B) (hx : x = nI a := by rfl) (hy : y = nI b := by rfl) (ha : a < 2 ^ 31 := by omega) (hb : b < 2 ^ 31 := by omega) : (x = y → A) ∧ (¬ x = y → B) := by
  subst hx hy
  rw [nI_eq ha hb]
  exact ⟨f, g⟩
theorem pk_in {x : Int32} (n N : Nat) (h : n < N) (hx : x = nI n := by rfl) (hN : N < 2 ^ 31 := by omega) : vp_in x N := by
  subst hx
  exact vp_in_nI h hN
theorem pk_cl {x : Int32} (n : Nat) (hx : x = nI n := by rfl) (h : n < 2 ^ 31 := by omega) : x.toNatClampNeg = n := by
  subst hx
  exact nI_clamp h
theorem pk_loop {σ : Type} (W : Nat → Nat → σ → Prop) (I : Nat → σ → Prop) (e i0 : Nat) (s : σ) (hi : i0 ≤ e) (h0 : I i0 s) (hx : ∀ n s, I e s → W (n + 1) e s)
    (hs : ∀ n i s, i < e → I i s → (∀ s', I (i + 1) s' → W n (i + 1) s') → W (n + 1) i s) : ∃ n, W n i0 s :=
  ⟨e + 1, loop_i W I e hx hs (e + 1) i0 s hi (by omega) h0⟩
theorem pk_least (P : Nat → Prop) (h : ∃ k, P k) : ∃ k, P k ∧ ∀ j, j < k → ¬ P j := by
  obtain ⟨k, hk⟩ := h
  induction k using Nat.strongRecOn with
  | ind k ih =>
    by_cases e : ∃ j, j < k ∧ P j
    · obtain ⟨j, hj, pj⟩ := e
      exact ih j hj pj
    · exact ⟨k, hk, fun j hj pj => e ⟨j, hj, pj⟩⟩
/-! ## numbers -/
theorem pc_4 : (4 : Int32) = nI 4 := by decide +kernel
theorem pc_8 : (8 : Int32) = nI 8 := by decide +kernel
theorem pc_16 : (16 : Int32) = nI 16 := by decide +kernel
theorem pc_32 : (32 : Int32) = nI 32 := by decide +kernel
theorem pc_cell (t i : Nat) : nI t * 4 + nI i = nI (t * 4 + i) := by rw [pc_4, pk_mul, nI_add]
theorem pc_m4 (t : Nat) : nI t * 4 = nI (t * 4) := by rw [pc_4, pk_mul]
theorem pc_m8 (q : Nat) : nI q * 8 = nI (q * 8) := by rw [pc_8, pk_mul]
/-- an argument against a bound: negative, too large, or a natural below -/
theorem pc_ix (x : Int32) (b : Nat) (hb : b < 2 ^ 31) : (x < 0 ∧ ¬ 0 ≤ x) ∨ (¬ x < 0 ∧ 0 ≤ x ∧ ¬ x < nI b ∧ nI b ≤ x) ∨ ∃ t, t < b ∧ x = nI t := by
  by_cases h : x < 0
  · exact Or.inl ⟨h, Int32.not_le.mpr h⟩
  · obtain ⟨j, hj, rfl⟩ := nI_of h
    by_cases h2 : j < b
    · exact Or.inr (Or.inr ⟨j, h2, rfl⟩)
    · exact Or.inr (Or.inl ⟨h, Int32.not_lt.mp h, nI_nlt (by omega) hj, nI_le (by omega) hj⟩)
theorem pc_nI_lt {a b : Nat} (h : a < b) (hb : b < 2 ^ 31) : nI a < nI b ∧ ¬ nI b ≤ nI a ∧ ¬ nI a < 0 ∧ 0 ≤ nI a :=
  ⟨nI_lt h hb, nI_ge h hb, nI_pos (by omega), nI_pos' (by omega)⟩
/-! ## counting the committed -/
def pc_cn (st : Nat → Int32) : Nat → Nat
  | 0 => 0
  | n + 1 => pc_cn st n + (if st n = 3 then 1 else 0)
theorem pc_cn_le (st : Nat → Int32) (n : Nat) : pc_cn st n ≤ n := by
  induction n with
  | zero => exact Nat.le_refl 0
  | succ n ih =>
    show pc_cn st n + (if st n = 3 then 1 else 0) ≤ n + 1
    split <;> omega
theorem pc_cn_lt {st : Nat → Int32} {t : Nat} (h3 : ¬ st t = 3) : ∀ n, t < n → pc_cn st n < n := by
  intro n
  induction n with
  | zero => intro h; omega
  | succ n ih =>
    intro h
    show pc_cn st n + (if st n = 3 then 1 else 0) < n + 1
    by_cases e : t = n
    · subst e
      rw [if_neg h3]
      have := pc_cn_le st t
      omega
    · have := ih (by omega)
      split <;> omega
theorem pc_cn_out {st : Nat → Int32} {t : Nat} {x : Int32} : ∀ n, n ≤ t → pc_cn (upd st t x) n = pc_cn st n := by
  intro n
  induction n with
  | zero => intro _; rfl
  | succ n ih =>
    intro h
    show pc_cn (upd st t x) n + (if upd st t x n = 3 then 1 else 0) = pc_cn st n + (if st n = 3 then 1 else 0)
    rw [ih (by omega), pk_un (by omega)]
theorem pc_cn_keep {st : Nat → Int32} {t : Nat} {x : Int32} (h : ¬ st t = 3) (hx : ¬ x = 3) (n : Nat) : pc_cn (upd st t x) n = pc_cn st n := by
  induction n with
  | zero => rfl
  | succ n ih =>
    show pc_cn (upd st t x) n + (if upd st t x n = 3 then 1 else 0) = pc_cn st n + (if st n = 3 then 1 else 0)
    rw [ih]
    by_cases e : n = t
    · subst e
      rw [pk_us, if_neg hx, if_neg h]
    · rw [pk_un e]
theorem pc_cn_up {st : Nat → Int32} {t : Nat} (h : ¬ st t = 3) : ∀ n, t < n → pc_cn (upd st t 3) n = pc_cn st n + 1 := by
  intro n
  induction n with
  | zero => intro z; omega
  | succ n ih =>
    intro z
    show pc_cn (upd st t 3) n + (if upd st t 3 n = 3 then 1 else 0) = pc_cn st n + (if st n = 3 then 1 else 0) + 1
    by_cases e : n = t
    · subst e
      rw [pk_us, if_pos rfl, if_neg h, pc_cn_out n (Nat.le_refl n)]
    · rw [pk_un e, ih (by omega)]
      omega
/-! ## versions: the lists both sides keep -/
def pc_xl (vt vv : Nat → Int32) (q : Nat) : Nat → List (Int32 × Int32)
  | 0 => []
  | n + 1 => pc_xl vt vv q n ++ [(vt (q * 8 + n), vv (q * 8 + n))]
def pc_yl (wk wt wv : Nat → Int32) (k : Int32) : Nat → List (Int32 × Int32)
  | 0 => []
  | n + 1 => if wk n = k then pc_yl wk wt wv k n ++ [(wt n, wv n)] else pc_yl wk wt wv k n
def pc_ap (L : Nat → List (Int32 × Int32)) (k ts v : Int32) : Nat → List (Int32 × Int32) :=
  fun q => if k = nI q then L q ++ [(ts, v)] else L q
/-- the lists after the first i writes of the transaction whose cells begin at c -/
def pc_cm (key val : Nat → Int32) (ts : Int32) (c : Nat) (L : Nat → List (Int32 × Int32)) : Nat → Nat → List (Int32 × Int32)
  | 0 => L
  | i + 1 => pc_ap (pc_cm key val ts c L i) (key (c + i)) ts (val (c + i))
/-- the floor's step and the read's step -/
def pc_g (f : Int32) (p : Int32 × Int32) : Int32 := if p.1 ≤ f then f else p.1
def pc_rd (ts : Int32) (a : Int32) (p : Int32 × Int32) : Int32 := if ts < p.1 then a else p.2
def pc_XV (vc vt vv : Nat → Int32) (L : Nat → List (Int32 × Int32)) : Prop :=
  ∀ q, q < 16 → ∃ n, n ≤ 8 ∧ vc q = nI n ∧ pc_xl vt vv q n = L q
def pc_YV (wk wt wv : Nat → Int32) (w : Nat) (L : Nat → List (Int32 × Int32)) : Prop :=
  ∀ q, q < 16 → pc_yl wk wt wv (nI q) w = L q
theorem pc_xl_len (vt vv : Nat → Int32) (q n : Nat) : (pc_xl vt vv q n).length = n := by
  induction n with
  | zero => rfl
  | succ n ih =>
    show (pc_xl vt vv q n ++ [(vt (q * 8 + n), vv (q * 8 + n))]).length = n + 1
    rw [List.length_append, ih]
    rfl
theorem pc_xl_un {vt vv : Nat → Int32} {q c : Nat} {x y : Int32} : ∀ n, (∀ j, j < n → q * 8 + j ≠ c) → pc_xl (upd vt c x) (upd vv c y) q n = pc_xl vt vv q n := by
  intro n
  induction n with
  | zero => intro _; rfl
  | succ n ih =>
    intro h
    show pc_xl (upd vt c x) (upd vv c y) q n ++ [(upd vt c x (q * 8 + n), upd vv c y (q * 8 + n))] = _
    rw [ih (fun j hj => h j (by omega)), pk_un (h n (by omega)), pk_un (h n (by omega))]
    rfl
theorem pc_yl_un {wk wt wv : Nat → Int32} {w : Nat} {k x y z : Int32} : ∀ n, n ≤ w → pc_yl (upd wk w x) (upd wt w y) (upd wv w z) k n = pc_yl wk wt wv k n := by
  intro n
  induction n with
  | zero => intro _; rfl
  | succ n ih =>
    intro h
    show (if upd wk w x n = k then pc_yl (upd wk w x) (upd wt w y) (upd wv w z) k n ++ [(upd wt w y n, upd wv w z n)] else pc_yl (upd wk w x) (upd wt w y) (upd wv w z) k n) = _
    rw [ih (by omega), pk_un (by omega), pk_un (by omega), pk_un (by omega)]
    rfl
theorem pc_XV_ap {vc vt vv : Nat → Int32} {L : Nat → List (Int32 × Int32)} {q n : Nat} {ts v : Int32} (h : pc_XV vc vt vv L) (hq : q < 16) (hn : vc q = nI n) (h8 : n < 8) :
    pc_XV (upd vc q (nI (n + 1))) (upd vt (q * 8 + n) ts) (upd vv (q * 8 + n) v) (pc_ap L (nI q) ts v) := by
  intro p hp
  obtain ⟨m, hm, e, l⟩ := h p hp
  by_cases z : p = q
  · subst z
    have em : m = n := by
      rw [e] at hn
      exact (nI_eq (by omega) (by omega)).mp hn
    subst em
    refine ⟨m + 1, by omega, pk_us, ?_⟩
    show pc_xl (upd vt (p * 8 + m) ts) (upd vv (p * 8 + m) v) p m ++ [(upd vt (p * 8 + m) ts (p * 8 + m), upd vv (p * 8 + m) v (p * 8 + m))] = (if nI p = nI p then L p ++ [(ts, v)] else L p)
    rw [pc_xl_un m (fun j hj => by omega), pk_us, pk_us, if_pos rfl, l]
  · refine ⟨m, hm, by rw [pk_un z, e], ?_⟩
    show _ = (if nI q = nI p then L p ++ [(ts, v)] else L p)
    rw [pc_xl_un m (fun j hj => by omega), if_neg (fun t => z ((nI_eq (by omega) (by omega)).mp t).symm), l]
theorem pc_YV_ap {wk wt wv : Nat → Int32} {w : Nat} {L : Nat → List (Int32 × Int32)} {k ts v : Int32} (h : pc_YV wk wt wv w L) :
    pc_YV (upd wk w k) (upd wt w ts) (upd wv w v) (w + 1) (pc_ap L k ts v) := by
  intro q hq
  show (if upd wk w k w = nI q then pc_yl (upd wk w k) (upd wt w ts) (upd wv w v) (nI q) w ++ [(upd wt w ts w, upd wv w v w)] else pc_yl (upd wk w k) (upd wt w ts) (upd wv w v) (nI q) w) = (if k = nI q then L q ++ [(ts, v)] else L q)
  rw [pc_yl_un w (Nat.le_refl w), pk_us, pk_us, pk_us, h q hq]
theorem pc_cm_un {key val : Nat → Int32} {ts : Int32} {c q : Nat} {L : Nat → List (Int32 × Int32)} : ∀ i, (∀ j, j < i → ¬ key (c + j) = nI q) → pc_cm key val ts c L i q = L q := by
  intro i
  induction i with
  | zero => intro _; rfl
  | succ i ih =>
    intro h
    show (if key (c + i) = nI q then pc_cm key val ts c L i q ++ [(ts, val (c + i))] else pc_cm key val ts c L i q) = L q
    rw [if_neg (h i (by omega)), ih (fun j hj => h j (by omega))]
theorem pc_cm_len {key val : Nat → Int32} {ts : Int32} {c q n : Nat} {L : Nat → List (Int32 × Int32)} (hd : ∀ i j, i < j → j < n → ¬ key (c + i) = key (c + j)) :
    ∀ i, i ≤ n → (pc_cm key val ts c L i q).length ≤ (L q).length + 1 := by
  intro i
  induction i with
  | zero => intro _; exact Nat.le_succ _
  | succ i ih =>
    intro h
    show (if key (c + i) = nI q then pc_cm key val ts c L i q ++ [(ts, val (c + i))] else pc_cm key val ts c L i q).length ≤ _
    by_cases e : key (c + i) = nI q
    · rw [if_pos e, pc_cm_un i (fun j hj z => hd j i hj (by omega) (z.trans e.symm)), List.length_append]
      exact Nat.le_refl _
    · rw [if_neg e]
      exact ih (by omega)
end
section
/-! ## the invariant of the shared state, and that each call keeps it -/
theorem pc_uA {f : Nat → Int32} {k : Nat} {x : Int32} (P : Nat → Int32 → Prop) (hx : P k x) (hf : ∀ j, j ≠ k → P j (f j)) : ∀ j, P j (upd f k x j) := by
  intro j
  by_cases e : j = k
  · subst e
    rw [pk_us]
    exact hx
  · rw [pk_un e]
    exact hf j e
theorem pc_same {f : Nat → Int32} {k : Nat} {x : Int32} (h : f k = x) : upd f k x = f := by
  funext j
  by_cases e : j = k
  · subst e
    rw [pk_us, h]
  · rw [pk_un e]
def pc_n (sc : Nat → Int32) (t : Nat) : Nat := (sc t).toNatClampNeg
theorem pc_n_s {sc : Nat → Int32} {t m : Nat} (h : m < 2 ^ 31) : pc_n (upd sc t (nI m)) t = m := by
  show (upd sc t (nI m) t).toNatClampNeg = m
  rw [pk_us, nI_clamp h]
theorem pc_n_u {sc : Nat → Int32} {t s : Nat} {x : Int32} (h : s ≠ t) : pc_n (upd sc t x) s = pc_n sc s := by
  show (upd sc t x s).toNatClampNeg = (sc s).toNatClampNeg
  rw [pk_un h]
/-- b begun of cp; w versions in all; ca cache, tt timestamps, st statuses, al alive, sg staged, sc slot counts, ky keys, pl placed; L the versions of each key -/
def pc_Inv (b cp w : Nat) (ca tt st al sg sc ky pl : Nat → Int32) (L : Nat → List (Int32 × Int32)) : Prop :=
  (b ≤ cp ∧ cp ≤ 8) ∧ (∀ i, ¬ ca i < 0) ∧ (∀ t, ¬ tt t < 0) ∧
  (∀ t, t < b → (st t = 1 ∨ st t = 2 ∨ st t = 3 ∨ st t = 4)) ∧ (∀ t, al t = 0 ∨ al t = 1) ∧ (∀ t, sg t = 0 ∨ sg t = 1) ∧
  (∀ t, pc_n sc t ≤ 4 ∧ sc t = nI (pc_n sc t)) ∧ (∀ t, b ≤ t → sc t = 0 ∧ sg t = 0 ∧ st t = 0) ∧
  (∀ c, ∃ q, q < 16 ∧ ky c = nI q) ∧ (∀ t i j, i < j → j < pc_n sc t → ¬ ky (t * 4 + i) = ky (t * 4 + j)) ∧
  (∀ t i, pc_n sc t ≤ i → i < 4 → pl (t * 4 + i) = 0) ∧
  (∀ q, (L q).length ≤ pc_cn st 8) ∧ w ≤ 4 * pc_cn st 8
theorem pc_Inv0 {cp : Nat} (h : cp ≤ 8) : pc_Inv 0 cp 0 (fun _ => 0) (fun _ => 0) (fun _ => 0) (fun _ => 0) (fun _ => 0) (fun _ => 0) (fun _ => 0) (fun _ => 0) (fun _ => []) := by
  refine ⟨⟨Nat.zero_le _, h⟩, fun i => (by decide : ¬ (0 : Int32) < 0), fun i => (by decide : ¬ (0 : Int32) < 0), fun t z => absurd z (Nat.not_lt_zero t), fun t => Or.inl rfl, fun t => Or.inl rfl, fun t => ⟨(by decide : (0 : Int32).toNatClampNeg ≤ 4), (by decide +kernel : (0 : Int32) = nI (0 : Int32).toNatClampNeg)⟩, fun t _ => ⟨rfl, rfl, rfl⟩, fun c => ⟨0, by omega, nI_0.symm⟩, fun t i j h1 h2 => ?_, fun t i _ _ => rfl, fun q => Nat.zero_le _, Nat.zero_le _⟩
  have h3 : j < (0 : Int32).toNatClampNeg := h2
  rw [show (0 : Int32).toNatClampNeg = 0 from by decide] at h3
  omega
theorem pc_begin {b cp w : Nat} {ca tt st al sg sc ky pl : Nat → Int32} {L : Nat → List (Int32 × Int32)} {ts : Int32} (h : pc_Inv b cp w ca tt st al sg sc ky pl L) (hb : b < cp) (hts : ¬ ts < 0) :
    pc_Inv (b + 1) cp w ca (upd tt b ts) (upd st b 1) (upd al b 1) sg sc ky pl L := by
  obtain ⟨h1, h2, h3, h4, h5, h6, h7, h8, h9, h10, h11, h12, h13⟩ := h
  have e3 : ¬ st b = 3 := by rw [(h8 b (Nat.le_refl b)).2.2]; decide
  refine ⟨⟨by omega, h1.2⟩, h2, pc_uA (fun _ x => ¬ x < 0) hts (fun j _ => h3 j), pc_uA (fun t x => t < b + 1 → (x = 1 ∨ x = 2 ∨ x = 3 ∨ x = 4)) (fun _ => Or.inl rfl) (fun j e z => h4 j (by omega)), pc_uA (fun _ x => x = 0 ∨ x = 1) (Or.inr rfl) (fun j _ => h5 j), h6, h7, fun t z => ?_, h9, h10, h11, ?_, ?_⟩
  · rw [pk_un (show t ≠ b by omega)]
    exact h8 t (by omega)
  · rw [pc_cn_keep e3 (by decide)]
    exact h12
  · rw [pc_cn_keep e3 (by decide)]
    exact h13
theorem pc_add {b cp w t n q : Nat} {ca tt st al sg sc ky pl : Nat → Int32} {L : Nat → List (Int32 × Int32)} (h : pc_Inv b cp w ca tt st al sg sc ky pl L) (ht : t < b) (hn : sc t = nI n) (h4 : n < 4) (hq : q < 16)
    (hk : ∀ i, i < n → ¬ ky (t * 4 + i) = nI q) : pc_Inv b cp w ca tt st al sg (upd sc t (nI (n + 1))) (upd ky (t * 4 + n) (nI q)) pl L := by
  obtain ⟨h1, h2, h3, h4', h5, h6, h7, h8, h9, h10, h11, h12, h13⟩ := h
  have en : pc_n sc t = n := by
    show (sc t).toNatClampNeg = n
    rw [hn, nI_clamp (by omega)]
  refine ⟨h1, h2, h3, h4', h5, h6, fun s => ?_, fun s z => ?_, pc_uA (fun _ x => ∃ q, q < 16 ∧ x = nI q) ⟨q, hq, rfl⟩ (fun j _ => h9 j), fun s i j hij hj => ?_, fun s i h1 h2 => ?_, h12, h13⟩
  · by_cases e : s = t
    · subst e
      rw [pc_n_s (by omega), pk_us]
      exact ⟨by omega, rfl⟩
    · rw [pc_n_u e, pk_un e]
      exact h7 s
  · rw [pk_un (show s ≠ t by omega)]
    exact h8 s z
  · by_cases e : s = t
    · subst e
      rw [pc_n_s (by omega)] at hj
      rw [pk_un (show s * 4 + i ≠ s * 4 + n by omega)]
      by_cases ej : j = n
      · subst ej
        rw [pk_us]
        exact hk i hij
      · rw [pk_un (show s * 4 + j ≠ s * 4 + n by omega)]
        exact h10 s i j hij (by omega)
    · rw [pc_n_u e] at hj
      have := (h7 s).1
      rw [pk_un (show s * 4 + i ≠ t * 4 + n by omega), pk_un (show s * 4 + j ≠ t * 4 + n by omega)]
      exact h10 s i j hij hj
  · by_cases e : s = t
    · subst e
      rw [pc_n_s (by omega)] at h1
      exact h11 s i (by omega) h2
    · rw [pc_n_u e] at h1
      exact h11 s i h1 h2
theorem pc_stage {b cp w t : Nat} {ca tt st al sg sc ky pl : Nat → Int32} {L : Nat → List (Int32 × Int32)} (h : pc_Inv b cp w ca tt st al sg sc ky pl L) (ht : t < b) (hs : st t = 1) :
    pc_Inv b cp w ca tt (upd st t 2) al (upd sg t 1) sc ky pl L := by
  obtain ⟨h1, h2, h3, h4, h5, h6, h7, h8, h9, h10, h11, h12, h13⟩ := h
  have e3 : ¬ st t = 3 := by rw [hs]; decide
  refine ⟨h1, h2, h3, pc_uA (fun s x => s < b → (x = 1 ∨ x = 2 ∨ x = 3 ∨ x = 4)) (fun _ => Or.inr (Or.inl rfl)) (fun j _ z => h4 j z), h5, pc_uA (fun _ x => x = 0 ∨ x = 1) (Or.inr rfl) (fun j _ => h6 j), h7, fun s z => ?_, h9, h10, h11, ?_, ?_⟩
  · rw [pk_un (show s ≠ t by omega), pk_un (show s ≠ t by omega)]
    exact h8 s z
  · rw [pc_cn_keep e3 (by decide)]
    exact h12
  · rw [pc_cn_keep e3 (by decide)]
    exact h13
theorem pc_abort {b cp w t : Nat} {ca tt st al sg sc ky pl : Nat → Int32} {L : Nat → List (Int32 × Int32)} (h : pc_Inv b cp w ca tt st al sg sc ky pl L) (ht : t < b) (hs : ¬ st t = 3) :
    pc_Inv b cp w ca tt (upd st t 4) al sg sc ky pl L := by
  obtain ⟨h1, h2, h3, h4, h5, h6, h7, h8, h9, h10, h11, h12, h13⟩ := h
  refine ⟨h1, h2, h3, pc_uA (fun s x => s < b → (x = 1 ∨ x = 2 ∨ x = 3 ∨ x = 4)) (fun _ => Or.inr (Or.inr (Or.inr rfl))) (fun j _ z => h4 j z), h5, h6, h7, fun s z => ?_, h9, h10, h11, ?_, ?_⟩
  · rw [pk_un (show s ≠ t by omega)]
    exact h8 s z
  · rw [pc_cn_keep hs (by decide)]
    exact h12
  · rw [pc_cn_keep hs (by decide)]
    exact h13
theorem pc_commit {b cp w t n : Nat} {ca tt st al sg sc ky vl pl : Nat → Int32} {L : Nat → List (Int32 × Int32)} (h : pc_Inv b cp w ca tt st al sg sc ky pl L) (ht : t < b) (hs : ¬ st t = 3) (hn : sc t = nI n) (h4n : n ≤ 4) :
    pc_Inv b cp (w + n) ca tt (upd st t 3) al sg sc ky pl (pc_cm ky vl (tt t) (t * 4) L n) := by
  obtain ⟨h1, h2, h3, h4, h5, h6, h7, h8, h9, h10, h11, h12, h13⟩ := h
  have en : pc_n sc t = n := by
    show (sc t).toNatClampNeg = n
    rw [hn, nI_clamp (by omega)]
  refine ⟨h1, h2, h3, pc_uA (fun s x => s < b → (x = 1 ∨ x = 2 ∨ x = 3 ∨ x = 4)) (fun _ => Or.inr (Or.inr (Or.inl rfl))) (fun j _ z => h4 j z), h5, h6, h7, fun s z => ?_, h9, h10, h11, fun q => ?_, ?_⟩
  · rw [pk_un (show s ≠ t by omega)]
    exact h8 s z
  · rw [pc_cn_up hs 8 (by omega)]
    have a := pc_cm_len (key := ky) (val := vl) (ts := tt t) (c := t * 4) (q := q) (n := n) (L := L) (fun i j hi hj => h10 t i j hi (by omega)) n (Nat.le_refl n)
    have := h12 q
    omega
  · rw [pc_cn_up hs 8 (by omega)]
    omega
theorem pc_deliver {b cp w t i n : Nat} {ca tt st al sg sc ky pl : Nat → Int32} {L : Nat → List (Int32 × Int32)} {x : Int32} (h : pc_Inv b cp w ca tt st al sg sc ky pl L) (hn : sc t = nI n) (h4n : n ≤ 4) (hi : i < n) :
    pc_Inv b cp w ca tt st al sg sc ky (upd pl (t * 4 + i) x) L := by
  obtain ⟨h1, h2, h3, h4, h5, h6, h7, h8, h9, h10, h11, h12, h13⟩ := h
  have en : pc_n sc t = n := by
    show (sc t).toNatClampNeg = n
    rw [hn, nI_clamp (by omega)]
  refine ⟨h1, h2, h3, h4, h5, h6, h7, h8, h9, h10, fun s j hj h4j => ?_, h12, h13⟩
  by_cases e : s = t
  · subst e
    rw [pk_un (show s * 4 + j ≠ s * 4 + i by omega)]
    exact h11 s j hj h4j
  · rw [pk_un (show s * 4 + j ≠ t * 4 + i by omega)]
    exact h11 s j hj h4j
theorem pc_crash {b cp w t : Nat} {ca tt st al sg sc ky pl : Nat → Int32} {L : Nat → List (Int32 × Int32)} (h : pc_Inv b cp w ca tt st al sg sc ky pl L) :
    pc_Inv b cp w ca tt st (upd al t 0) sg sc ky pl L := by
  obtain ⟨h1, h2, h3, h4, h5, h6, h7, h8, h9, h10, h11, h12, h13⟩ := h
  exact ⟨h1, h2, h3, h4, pc_uA (fun _ x => x = 0 ∨ x = 1) (Or.inl rfl) (fun j _ => h5 j), h6, h7, h8, h9, h10, h11, h12, h13⟩
theorem pc_cache {b cp w q : Nat} {ca tt st al sg sc ky pl : Nat → Int32} {L : Nat → List (Int32 × Int32)} {x : Int32} (h : pc_Inv b cp w ca tt st al sg sc ky pl L) (hx : ¬ x < 0) :
    pc_Inv b cp w (upd ca q x) tt st al sg sc ky pl L := by
  obtain ⟨h1, h2, h3, h4, h5, h6, h7, h8, h9, h10, h11, h12, h13⟩ := h
  exact ⟨h1, pc_uA (fun _ x => ¬ x < 0) hx (fun j _ => h2 j), h3, h4, h5, h6, h7, h8, h9, h10, h11, h12, h13⟩
/-! ## intents: the first delivered slot of an undecided transaction on the key -/
def pc_und (st : Nat → Int32) (t : Nat) : Prop := st t = 1 ∨ st t = 2
def pc_hit (st sc ky pl : Nat → Int32) (k : Int32) (t i : Nat) : Prop := pc_und st t ∧ i < pc_n sc t ∧ ¬ pl (t * 4 + i) = 0 ∧ ky (t * 4 + i) = k
theorem pc_first (st sc ky pl : Nat → Int32) (k : Int32) (b : Nat) : (∀ t, t < b → ∀ i, ¬ pc_hit st sc ky pl k t i) ∨
    ∃ t i, t < b ∧ pc_hit st sc ky pl k t i ∧ (∀ s, s < t → ∀ j, ¬ pc_hit st sc ky pl k s j) ∧ (∀ j, j < i → ¬ pc_hit st sc ky pl k t j) := by
  by_cases h : ∃ t, t < b ∧ ∃ i, pc_hit st sc ky pl k t i
  · obtain ⟨t, ⟨ht, hi⟩, hl⟩ := pk_least (fun t => t < b ∧ ∃ i, pc_hit st sc ky pl k t i) h
    obtain ⟨i, hi, hj⟩ := pk_least (fun i => pc_hit st sc ky pl k t i) hi
    exact Or.inr ⟨t, i, ht, hi, fun s hs j z => hl s hs ⟨by omega, j, z⟩, hj⟩
  · exact Or.inl (fun t ht i z => h ⟨t, ht, i, z⟩)
end
section
/-! ## the component's own methods and loops -/
section
variable {fc fb fw : Int32} {ca vc vt vv tt st al sg sc ky vl pl wk wt wv : Nat → Int32}
/-- a cache raised to x at q, if x is above -/
def pc_ra (ca : Nat → Int32) (q : Nat) (x : Int32) : Nat → Int32 := if x ≤ ca q then ca else upd ca q x
/-- the cache after the undelivered among the first i slots are prevented -/
def pc_pv (ca ky pl : Nat → Int32) (ts : Int32) (c : Nat) : Nat → Nat → Int32
  | 0 => ca
  | i + 1 => if pl (c + i) = 0 then pc_ra (pc_pv ca ky pl ts c i) (ky (c + i)).toNatClampNeg ts else pc_pv ca ky pl ts c i
theorem xh_writesKey {post : Int32 → Prop} {t n : Nat} {k : Int32} (ht : t < 8) (hn : sc t = nI n) (h4 : n ≤ 4)
    (hT : (∃ i, i < n ∧ ky (t * 4 + i) = k) → post 1) (hF : (∀ i, i < n → ¬ ky (t * 4 + i) = k) → post 0) : wpX_writesKey post (fc, fb, ca, vc, vt, vv, tt, st, al, sg, sc, ky, vl, pl) (nI t) k := by
  have et : (nI t).toNatClampNeg = t := nI_clamp (by omega)
  have vt8 : vp_in (nI t) 8 := vp_in_nI ht (by omega)
  refine pk_loop (σ := Unit) (fun f i _ => wX_writesKey_2 post (nI t) k fc fb ca vc vt vv tt st al sg sc ky vl pl f (nI i)) (fun i _ => ∀ j, j < i → ¬ ky (t * 4 + j) = k) n 0 () (Nat.zero_le n) (fun j hj => absurd hj (by omega)) ?_ ?_
  · intro f _ I
    simp only [wX_writesKey_2, et, hn]
    exact ⟨vt8, br_t (nI_le (Nat.le_refl n) (by omega)) (hF I)⟩
  · intro f i _ hi I hw
    have ec : (nI (t * 4 + i)).toNatClampNeg = t * 4 + i := nI_clamp (by omega)
    simp only [wX_writesKey_2, wpX_cellOf, et, hn, pc_cell, ec]
    refine ⟨vt8, br_f (nI_ge hi (by omega)) ⟨vp_in_nI (by omega) (by omega), br_c (fun z => hT ⟨i, hi, z⟩) (fun z => nm_r (nI_1 i) (hw () ?_))⟩⟩
    exact lt_s I z
theorem xh_placedOn {post : Int32 → Prop} {t n : Nat} {k : Int32} (ht : t < 8) (hn : sc t = nI n) (h4 : n ≤ 4)
    (hT : ∀ i, i < n → ky (t * 4 + i) = k → post (pl (t * 4 + i))) (hF : (∀ i, i < n → ¬ ky (t * 4 + i) = k) → post 0) : wpX_placedOn post (fc, fb, ca, vc, vt, vv, tt, st, al, sg, sc, ky, vl, pl) (nI t) k := by
  have et : (nI t).toNatClampNeg = t := nI_clamp (by omega)
  have vt8 : vp_in (nI t) 8 := vp_in_nI ht (by omega)
  refine pk_loop (σ := Unit) (fun f i _ => wX_placedOn_2 post (nI t) k fc fb ca vc vt vv tt st al sg sc ky vl pl f (nI i)) (fun i _ => ∀ j, j < i → ¬ ky (t * 4 + j) = k) n 0 () (Nat.zero_le n) (fun j hj => absurd hj (by omega)) ?_ ?_
  · intro f _ I
    simp only [wX_placedOn_2, et, hn]
    exact ⟨vt8, br_t (nI_le (Nat.le_refl n) (by omega)) (hF I)⟩
  · intro f i _ hi I hw
    have ec : (nI (t * 4 + i)).toNatClampNeg = t * 4 + i := nI_clamp (by omega)
    simp only [wX_placedOn_2, wpX_cellOf, et, hn, pc_cell, ec]
    refine ⟨vt8, br_f (nI_ge hi (by omega)) ⟨vp_in_nI (by omega) (by omega), br_c (fun z => ⟨vp_in_nI (by omega) (by omega), hT i hi z⟩) (fun z => nm_r (nI_1 i) (hw () ?_))⟩⟩
    exact lt_s I z
theorem xh_intentTs {post : Int32 → Prop} {b : Nat} {k : Int32} (hb : b ≤ 8) (hst : ∀ t, t < b → (st t = 1 ∨ st t = 2 ∨ st t = 3 ∨ st t = 4)) (hsc : ∀ t, pc_n sc t ≤ 4 ∧ sc t = nI (pc_n sc t))
    (hd : ∀ t i j, i < j → j < pc_n sc t → ¬ ky (t * 4 + i) = ky (t * 4 + j))
    (h0 : (∀ t, t < b → ∀ i, ¬ pc_hit st sc ky pl k t i) → post 0)
    (h1 : ∀ t i, t < b → pc_hit st sc ky pl k t i → (∀ s, s < t → ∀ j, ¬ pc_hit st sc ky pl k s j) → ¬ pl (t * 4 + i) = 0 → post (pl (t * 4 + i))) : wpX_intentTs post (fc, nI b, ca, vc, vt, vv, tt, st, al, sg, sc, ky, vl, pl) k := by
  refine pk_loop (σ := Unit) (fun f i _ => wX_intentTs_2 post k fc (nI b) ca vc vt vv tt st al sg sc ky vl pl f (nI i)) (fun i _ => ∀ s, s < i → ∀ j, ¬ pc_hit st sc ky pl k s j) b 0 () (Nat.zero_le b) (fun j hj => absurd hj (by omega)) ?_ ?_
  · intro f _ I
    simp only [wX_intentTs_2]
    exact br_t (nI_le (Nat.le_refl b) (by omega)) (h0 I)
  · intro f t _ ht I hw
    have et : (nI t).toNatClampNeg = t := nI_clamp (by omega)
    have vt8 : vp_in (nI t) 8 := vp_in_nI (by omega) (by omega)
    simp only [wX_intentTs_2, wpX_isDecided, wX_intentTs_28, et]
    refine br_f (nI_ge ht (by omega)) ⟨vt8, ?_⟩
    by_cases e3 : st t = 3
    · refine br_t e3 (br_f (by decide) (br_t (by trivial) (nm_r (nI_1 t) (hw () (lt_s I (fun j z => ?_))))))
      rcases z.1 with y | y <;> rw [e3] at y <;> exact absurd y (by decide)
    · refine br_f e3 ⟨vt8, ?_⟩
      by_cases e4 : st t = 4
      · refine br_t e4 (br_f (by decide) (br_t (by trivial) (nm_r (nI_1 t) (hw () (lt_s I (fun j z => ?_))))))
        rcases z.1 with y | y <;> rw [e4] at y <;> exact absurd y (by decide)
      · have hu : pc_und st t := by
          rcases hst t ht with y | y | y | y
          · exact Or.inl y
          · exact Or.inr y
          · exact absurd y e3
          · exact absurd y e4
        refine br_f e4 (br_t (by trivial) (xh_placedOn (by omega) (hsc t).2 (hsc t).1 (fun i hi ek => ?_) (fun hF => ?_)))
        · refine br_c (fun z => nm_r (nI_1 t) (hw () (lt_s I (fun j y => ?_)))) (fun z => h1 t i ht ⟨hu, hi, z, ek⟩ I z)
          obtain ⟨_, y2, y3, y4⟩ := y
          rcases Nat.lt_trichotomy i j with g | g | g
          · exact hd t i j g y2 (ek.trans y4.symm)
          · subst g
            exact y3 z
          · exact hd t j i g hi (y4.trans ek.symm)
        · exact br_t (by trivial) (nm_r (nI_1 t) (hw () (lt_s I (fun j y => hF j y.2.1 y.2.2.2))))
theorem xh_floorOf {post : Int32 → Prop} {q : Nat} {L : Nat → List (Int32 × Int32)} (hq : q < 16) (hV : pc_XV vc vt vv L) (hp : post ((L q).foldl pc_g (ca q))) : wpX_floorOf post (fc, fb, ca, vc, vt, vv, tt, st, al, sg, sc, ky, vl, pl) (nI q) := by
  obtain ⟨n, hn, en, el⟩ := hV q hq
  have eq : (nI q).toNatClampNeg = q := nI_clamp (by omega)
  have vq : vp_in (nI q) 16 := vp_in_nI hq (by omega)
  simp only [wpX_floorOf, eq, pc_m8]
  refine ⟨vq, nm_e (nm_e ?_)⟩
  refine pk_loop (σ := Int32) (fun f i s => wX_floorOf_15 post (nI q) (nI (q * 8)) fc fb ca vc vt vv tt st al sg sc ky vl pl f s (nI i)) (fun i s => s = (pc_xl vt vv q i).foldl pc_g (ca q)) n 0 (ca q) (Nat.zero_le n) rfl ?_ ?_
  · intro f s I
    simp only [wX_floorOf_15, eq, en]
    rw [el] at I
    exact ⟨vq, br_t (nI_le (Nat.le_refl n) (by omega)) (by rw [I]; exact hp)⟩
  · intro f i s hi I hw
    have ec : (nI (q * 8 + i)).toNatClampNeg = q * 8 + i := nI_clamp (by omega)
    have vcc : vp_in (nI (q * 8 + i)) 128 := vp_in_nI (by omega) (by omega)
    simp only [wX_floorOf_15, eq, en, nI_add, ec]
    refine ⟨vq, br_f (nI_ge hi (by omega)) ⟨vcc, br_c (fun z => nm_r (nI_1 i) (hw s ?_)) (fun z => ⟨vcc, nm_e (nm_r (nI_1 i) (hw _ ?_))⟩)⟩⟩
    · show s = (pc_xl vt vv q i ++ [(vt (q * 8 + i), vv (q * 8 + i))]).foldl pc_g (ca q)
      rw [List.foldl_append, ← I]
      exact (if_pos z).symm
    · show vt (q * 8 + i) = (pc_xl vt vv q i ++ [(vt (q * 8 + i), vv (q * 8 + i))]).foldl pc_g (ca q)
      rw [List.foldl_append, ← I]
      exact (if_neg z).symm
theorem xh_last {post : Int32 → Prop} {q : Nat} {ts : Int32} {L : Nat → List (Int32 × Int32)} (hq : q < 16) (hV : pc_XV vc vt vv L) (hp : post ((L q).foldl (pc_rd ts) (-9))) : wpX_lastValueUpTo post (fc, fb, ca, vc, vt, vv, tt, st, al, sg, sc, ky, vl, pl) (nI q) ts := by
  obtain ⟨n, hn, en, el⟩ := hV q hq
  have eq : (nI q).toNatClampNeg = q := nI_clamp (by omega)
  have vq : vp_in (nI q) 16 := vp_in_nI hq (by omega)
  simp only [wpX_lastValueUpTo, pc_m8]
  refine nm_e ?_
  refine pk_loop (σ := Int32) (fun f i s => wX_lastValueUpTo_12 post (nI q) ts (nI (q * 8)) fc fb ca vc vt vv tt st al sg sc ky vl pl f s (nI i)) (fun i s => s = (pc_xl vt vv q i).foldl (pc_rd ts) (-9)) n 0 (-9) (Nat.zero_le n) rfl ?_ ?_
  · intro f s I
    simp only [wX_lastValueUpTo_12, eq, en]
    rw [el] at I
    exact ⟨vq, br_t (nI_le (Nat.le_refl n) (by omega)) (by rw [I]; exact hp)⟩
  · intro f i s hi I hw
    have ec : (nI (q * 8 + i)).toNatClampNeg = q * 8 + i := nI_clamp (by omega)
    have vcc : vp_in (nI (q * 8 + i)) 128 := vp_in_nI (by omega) (by omega)
    simp only [wX_lastValueUpTo_12, eq, en, nI_add, ec]
    refine ⟨vq, br_f (nI_ge hi (by omega)) ⟨vcc, br_c (fun z => nm_r (nI_1 i) (hw s ?_)) (fun z => ⟨vcc, nm_e (nm_r (nI_1 i) (hw _ ?_))⟩)⟩⟩
    · show s = (pc_xl vt vv q i ++ [(vt (q * 8 + i), vv (q * 8 + i))]).foldl (pc_rd ts) (-9)
      rw [List.foldl_append, ← I]
      exact (if_pos z).symm
    · show vv (q * 8 + i) = (pc_xl vt vv q i ++ [(vt (q * 8 + i), vv (q * 8 + i))]).foldl (pc_rd ts) (-9)
      rw [List.foldl_append, ← I]
      exact (if_neg z).symm
theorem xh_allDel {post : Int32 → Prop} {t n : Nat} (ht : t < 8) (hn : sc t = nI n) (h4 : n ≤ 4)
    (hT : (∀ i, i < n → ¬ pl (t * 4 + i) = 0) → post 1) (hF : (∃ i, i < n ∧ pl (t * 4 + i) = 0) → post 0) : wpX_everySlotDelivered post (fc, fb, ca, vc, vt, vv, tt, st, al, sg, sc, ky, vl, pl) (nI t) := by
  have et : (nI t).toNatClampNeg = t := nI_clamp (by omega)
  have vt8 : vp_in (nI t) 8 := vp_in_nI ht (by omega)
  refine pk_loop (σ := Unit) (fun f i _ => wX_everySlotDelivered_2 post (nI t) fc fb ca vc vt vv tt st al sg sc ky vl pl f (nI i)) (fun i _ => ∀ j, j < i → ¬ pl (t * 4 + j) = 0) n 0 () (Nat.zero_le n) (fun j hj => absurd hj (by omega)) ?_ ?_
  · intro f _ I
    simp only [wX_everySlotDelivered_2, et, hn]
    exact ⟨vt8, br_t (nI_le (Nat.le_refl n) (by omega)) (hT I)⟩
  · intro f i _ hi I hw
    have ec : (nI (t * 4 + i)).toNatClampNeg = t * 4 + i := nI_clamp (by omega)
    simp only [wX_everySlotDelivered_2, wpX_isDelivered, wpX_cellOf, et, hn, pc_cell, ec]
    refine ⟨vt8, br_f (nI_ge hi (by omega)) ⟨vp_in_nI (by omega) (by omega), br_c (fun z => br_t (by trivial) (hF ⟨i, hi, z⟩)) (fun z => br_f (by decide) (nm_r (nI_1 i) (hw () ?_)))⟩⟩
    exact lt_s I z
theorem xh_allAt {post : Int32 → Prop} {t n : Nat} (ht : t < 8) (hn : sc t = nI n) (h4 : n ≤ 4)
    (hT : (∀ i, i < n → pl (t * 4 + i) = tt t) → post 1) (hF : (∃ i, i < n ∧ ¬ pl (t * 4 + i) = tt t) → post 0) : wpX_everySlotAtTs post (fc, fb, ca, vc, vt, vv, tt, st, al, sg, sc, ky, vl, pl) (nI t) := by
  have et : (nI t).toNatClampNeg = t := nI_clamp (by omega)
  have vt8 : vp_in (nI t) 8 := vp_in_nI ht (by omega)
  refine pk_loop (σ := Unit) (fun f i _ => wX_everySlotAtTs_2 post (nI t) fc fb ca vc vt vv tt st al sg sc ky vl pl f (nI i)) (fun i _ => ∀ j, j < i → pl (t * 4 + j) = tt t) n 0 () (Nat.zero_le n) (fun j hj => absurd hj (by omega)) ?_ ?_
  · intro f _ I
    simp only [wX_everySlotAtTs_2, et, hn]
    exact ⟨vt8, br_t (nI_le (Nat.le_refl n) (by omega)) (hT I)⟩
  · intro f i _ hi I hw
    have ec : (nI (t * 4 + i)).toNatClampNeg = t * 4 + i := nI_clamp (by omega)
    simp only [wX_everySlotAtTs_2, wpX_cellOf, et, hn, pc_cell, ec]
    refine ⟨vt8, br_f (nI_ge hi (by omega)) ⟨vp_in_nI (by omega) (by omega), vt8, br_c (fun z => nm_r (nI_1 i) (hw () ?_)) (fun z => hF ⟨i, hi, z⟩)⟩⟩
    exact lt_s I z
theorem xh_append {post : SX → Prop} {q n : Nat} {x v : Int32} (hq : q < 16) (hn : vc q = nI n) (h8 : n < 8)
    (hp : post (fc, fb, ca, upd vc q (nI (n + 1)), upd vt (q * 8 + n) x, upd vv (q * 8 + n) v, tt, st, al, sg, sc, ky, vl, pl)) : wpX_appendVersion post (fc, fb, ca, vc, vt, vv, tt, st, al, sg, sc, ky, vl, pl) (nI q) x v := by
  have eq : (nI q).toNatClampNeg = q := nI_clamp (by omega)
  have vq : vp_in (nI q) 16 := vp_in_nI hq (by omega)
  have ec : (nI (q * 8 + n)).toNatClampNeg = q * 8 + n := nI_clamp (by omega)
  have vcc : vp_in (nI (q * 8 + n)) 128 := vp_in_nI (by omega) (by omega)
  simp only [wpX_appendVersion, eq, hn, pc_m8, nI_add]
  refine ⟨vq, nm_e (br_f (nI_ge (b := 8) h8 (by decide)) (nm_r (nI_add (q * 8) n) ⟨vcc, nm_e ⟨vcc, nm_e ⟨vq, nm_e ?_⟩⟩⟩))⟩
  rw [ec, nI_1 n]
  exact hp
theorem xh_commit {post : Int32 → SX → Prop} {t n : Nat} {L : Nat → List (Int32 × Int32)} (ht : t < 8) (hn : sc t = nI n) (h4 : n ≤ 4) (hky : ∀ c, ∃ q, q < 16 ∧ ky c = nI q)
    (hd : ∀ i j, i < j → j < n → ¬ ky (t * 4 + i) = ky (t * 4 + j)) (hV : pc_XV vc vt vv L) (hL : ∀ q, (L q).length ≤ 7)
    (hp : ∀ vc' vt' vv', pc_XV vc' vt' vv' (pc_cm ky vl (tt t) (t * 4) L n) → post 3 (fc, fb, ca, vc', vt', vv', tt, upd st t 3, al, sg, sc, ky, vl, pl)) : wpX_commit post (fc, fb, ca, vc, vt, vv, tt, st, al, sg, sc, ky, vl, pl) (nI t) := by
  have et : (nI t).toNatClampNeg = t := nI_clamp (by omega)
  have vt8 : vp_in (nI t) 8 := vp_in_nI ht (by omega)
  simp only [wpX_commit, et]
  refine ⟨vt8, nm_e ?_⟩
  refine pk_loop (σ := (Nat → Int32) × (Nat → Int32) × (Nat → Int32)) (fun f i s => wX_commit_9 post (nI t) f (nI i) fc fb ca s.1 s.2.1 s.2.2 tt (upd st t 3) al sg sc ky vl pl) (fun i s => pc_XV s.1 s.2.1 s.2.2 (pc_cm ky vl (tt t) (t * 4) L i)) n 0 (vc, vt, vv) (Nat.zero_le n) hV ?_ ?_
  · intro f s I
    simp only [wX_commit_9, et, hn]
    exact ⟨vt8, br_t (nI_le (Nat.le_refl n) (by omega)) (hp _ _ _ I)⟩
  · intro f i s hi I hw
    obtain ⟨s1, s2, s3⟩ := s
    have ec : (nI (t * 4 + i)).toNatClampNeg = t * 4 + i := nI_clamp (by omega)
    obtain ⟨q, hq, ek⟩ := hky (t * 4 + i)
    have I' : pc_XV s1 s2 s3 (pc_cm ky vl (tt t) (t * 4) L i) := I
    obtain ⟨m, hm, em, el⟩ := I' q hq
    have hm8 : m < 8 := by
      have a := pc_xl_len s2 s3 q m
      rw [el, pc_cm_un i (fun j hj z => hd j i hj hi (z.trans ek.symm))] at a
      have := hL q
      omega
    simp only [wX_commit_9, wpX_cellOf, et, hn, pc_cell, ec, ek]
    refine ⟨vt8, br_f (nI_ge hi (by omega)) ⟨vp_in_nI (by omega) (by omega), vt8, vp_in_nI (by omega) (by omega), xh_append hq em hm8 (nm_r (nI_1 i) ?_)⟩⟩
    have a := pc_XV_ap (ts := tt t) (v := vl (t * 4 + i)) I' hq em hm8
    refine hw (upd s1 q (nI (m + 1)), upd s2 (q * 8 + m) (tt t), upd s3 (q * 8 + m) (vl (t * 4 + i))) ?_
    rw [← ek] at a
    exact a
theorem xh_raise {post : SX → Prop} {q : Nat} {x : Int32} (hq : q < 16) (hp : post (fc, fb, pc_ra ca q x, vc, vt, vv, tt, st, al, sg, sc, ky, vl, pl)) : wpX_raiseCache post (fc, fb, ca, vc, vt, vv, tt, st, al, sg, sc, ky, vl, pl) (nI q) x := by
  have eq : (nI q).toNatClampNeg = q := nI_clamp (by omega)
  have vq : vp_in (nI q) 16 := vp_in_nI hq (by omega)
  simp only [wpX_raiseCache, eq]
  unfold pc_ra at hp
  refine ⟨vq, br_c (fun z => ?_) (fun z => ⟨vq, nm_e ?_⟩)⟩
  · rw [if_pos z] at hp
    exact hp
  · rw [if_neg z] at hp
    exact hp
theorem xh_prevent {post : SX → Prop} {t i : Nat} (ht : t < 8) (hi : i < 4) (hky : ∀ c, ∃ q, q < 16 ∧ ky c = nI q) (hp : post (fc, fb, pc_ra ca (ky (t * 4 + i)).toNatClampNeg (tt t), vc, vt, vv, tt, st, al, sg, sc, ky, vl, pl)) : wpX_prevent post (fc, fb, ca, vc, vt, vv, tt, st, al, sg, sc, ky, vl, pl) (nI t) (nI i) := by
  have et : (nI t).toNatClampNeg = t := nI_clamp (by omega)
  have vt8 : vp_in (nI t) 8 := vp_in_nI ht (by omega)
  have ec : (nI (t * 4 + i)).toNatClampNeg = t * 4 + i := nI_clamp (by omega)
  obtain ⟨q, hq, ek⟩ := hky (t * 4 + i)
  have eq : (nI q).toNatClampNeg = q := nI_clamp (by omega)
  rw [ek, eq] at hp
  simp only [wpX_prevent, wpX_cellOf, et, pc_cell, ec, ek]
  exact ⟨vp_in_nI (by omega) (by omega), vt8, xh_raise hq hp⟩
theorem xh_prevAll {post : SX → Prop} {t n : Nat} (ht : t < 8) (hn : sc t = nI n) (h4 : n ≤ 4) (hky : ∀ c, ∃ q, q < 16 ∧ ky c = nI q)
    (hp : post (fc, fb, pc_pv ca ky pl (tt t) (t * 4) n, vc, vt, vv, tt, st, al, sg, sc, ky, vl, pl)) : wpX_preventUndelivered post (fc, fb, ca, vc, vt, vv, tt, st, al, sg, sc, ky, vl, pl) (nI t) := by
  have et : (nI t).toNatClampNeg = t := nI_clamp (by omega)
  have vt8 : vp_in (nI t) 8 := vp_in_nI ht (by omega)
  refine pk_loop (σ := Nat → Int32) (fun f i s => wX_preventUndelivered_2 post (nI t) f (nI i) fc fb s vc vt vv tt st al sg sc ky vl pl) (fun i s => s = pc_pv ca ky pl (tt t) (t * 4) i) n 0 ca (Nat.zero_le n) rfl ?_ ?_
  · intro f s I
    simp only [wX_preventUndelivered_2, et, hn]
    exact ⟨vt8, br_t (nI_le (Nat.le_refl n) (by omega)) (by rw [I]; exact hp)⟩
  · intro f i s hi I hw
    have ec : (nI (t * 4 + i)).toNatClampNeg = t * 4 + i := nI_clamp (by omega)
    simp only [wX_preventUndelivered_2, wpX_isDelivered, wpX_cellOf, et, hn, pc_cell, ec]
    refine ⟨vt8, br_f (nI_ge hi (by omega)) ⟨vp_in_nI (by omega) (by omega), br_c (fun z => br_t (by trivial) (xh_prevent ht (by omega) hky (nm_r (nI_1 i) (hw _ ?_)))) (fun z => br_f (by decide) (nm_r (nI_1 i) (hw _ ?_)))⟩⟩
    · show pc_ra s _ _ = (if pl (t * 4 + i) = 0 then pc_ra (pc_pv ca ky pl (tt t) (t * 4) i) (ky (t * 4 + i)).toNatClampNeg (tt t) else pc_pv ca ky pl (tt t) (t * 4) i)
      rw [if_pos z, I]
    · show s = (if pl (t * 4 + i) = 0 then pc_ra (pc_pv ca ky pl (tt t) (t * 4) i) (ky (t * 4 + i)).toNatClampNeg (tt t) else pc_pv ca ky pl (tt t) (t * 4) i)
      rw [if_neg z, I]
end
end
section
/-! ## the reference's own methods and loops -/
section
variable {fc fb fw : Int32} {ca vc vt vv tt st al sg sc ky vl pl wk wt wv : Nat → Int32}
theorem pc_lt4 {i n : Nat} (hi : i < n) (h4 : n ≤ 4) : ¬ (4 : Int32) ≤ nI i := nI_ge (b := 4) (by omega) (by decide)
theorem pc_lt8 {i n : Nat} (hi : i < n) (h4 : n ≤ 8) : ¬ (8 : Int32) ≤ nI i := nI_ge (b := 8) (by omega) (by decide)
theorem pc_lt32 {i n : Nat} (hi : i < n) (h4 : n ≤ 32) : ¬ (32 : Int32) ≤ nI i := nI_ge (b := 32) (by omega) (by decide)
theorem yh_floorOf {post : Int32 → Prop} {q w : Nat} {L : Nat → List (Int32 × Int32)} (hq : q < 16) (hw32 : w ≤ 32) (hc : ¬ ca q < 0) (hV : pc_YV wk wt wv w L) (hp : post ((L q).foldl pc_g (ca q))) : wpY_floorOf post (fc, fb, nI w, tt, st, al, sg, sc, ky, vl, pl, ca, wk, wt, wv) (nI q) := by
  have eq : (nI q).toNatClampNeg = q := nI_clamp (by omega)
  have vq : vp_in (nI q) 16 := vp_in_nI hq (by omega)
  simp only [wpY_floorOf, eq]
  refine ⟨vq, nm_e (br_t (Int32.not_lt.mp hc) ?_)⟩
  refine pk_loop (σ := Int32) (fun f i s => wY_floorOf_15 post (nI q) fc fb (nI w) tt st al sg sc ky vl pl ca wk wt wv f s (nI i)) (fun i s => s = (pc_yl wk wt wv (nI q) i).foldl pc_g (ca q)) w 0 (ca q) (Nat.zero_le w) rfl ?_ ?_
  · intro f s I
    simp only [wY_floorOf_15]
    rw [hV q hq] at I
    exact br_t (nI_le (Nat.le_refl w) (by omega)) (by rw [I]; exact hp)
  · intro f i s hi I hw
    have ec : (nI i).toNatClampNeg = i := nI_clamp (by omega)
    have vcc : vp_in (nI i) 32 := vp_in_nI (by omega) (by omega)
    simp only [wY_floorOf_15, ec]
    refine br_f (nI_ge hi (by omega)) (br_f (pc_lt32 hi hw32) ⟨vcc, br_c (fun z => ⟨vcc, br_c (fun y => nm_r (nI_1 i) (hw s ?_)) (fun y => ⟨vcc, nm_e (nm_r (nI_1 i) (hw _ ?_))⟩)⟩) (fun z => nm_r (nI_1 i) (hw s ?_))⟩)
    · show s = (if wk i = nI q then pc_yl wk wt wv (nI q) i ++ [(wt i, wv i)] else pc_yl wk wt wv (nI q) i).foldl pc_g (ca q)
      rw [if_pos z, List.foldl_append, ← I]
      exact (if_pos y).symm
    · show wt i = (if wk i = nI q then pc_yl wk wt wv (nI q) i ++ [(wt i, wv i)] else pc_yl wk wt wv (nI q) i).foldl pc_g (ca q)
      rw [if_pos z, List.foldl_append, ← I]
      exact (if_neg y).symm
    · show s = (if wk i = nI q then pc_yl wk wt wv (nI q) i ++ [(wt i, wv i)] else pc_yl wk wt wv (nI q) i).foldl pc_g (ca q)
      rw [if_neg z, ← I]
theorem yh_last {post : Int32 → SY → Prop} {q w : Nat} {ts : Int32} {L : Nat → List (Int32 × Int32)} (hq : q < 16) (hw32 : w ≤ 32) (hV : pc_YV wk wt wv w L) (hp : post ((L q).foldl (pc_rd ts) (-9)) (fc, fb, nI w, tt, st, al, sg, sc, ky, vl, pl, ca, wk, wt, wv)) : ∃ n, wY_read_71 post (nI q) ts fc fb (nI w) tt st al sg sc ky vl pl ca wk wt wv n (-9) 0 := by
  refine pk_loop (σ := Int32) (fun f i s => wY_read_71 post (nI q) ts fc fb (nI w) tt st al sg sc ky vl pl ca wk wt wv f s (nI i)) (fun i s => s = (pc_yl wk wt wv (nI q) i).foldl (pc_rd ts) (-9)) w 0 (-9) (Nat.zero_le w) rfl ?_ ?_
  · intro f s I
    simp only [wY_read_71]
    rw [hV q hq] at I
    exact br_t (nI_le (Nat.le_refl w) (by omega)) (by rw [I]; exact hp)
  · intro f i s hi I hw
    have ec : (nI i).toNatClampNeg = i := nI_clamp (by omega)
    have vcc : vp_in (nI i) 32 := vp_in_nI (by omega) (by omega)
    simp only [wY_read_71, ec]
    refine br_f (nI_ge hi (by omega)) (br_f (pc_lt32 hi hw32) ⟨vcc, br_c (fun z => ⟨vcc, br_c (fun y => nm_r (nI_1 i) (hw s ?_)) (fun y => ⟨vcc, nm_e (nm_r (nI_1 i) (hw _ ?_))⟩)⟩) (fun z => nm_r (nI_1 i) (hw s ?_))⟩)
    · show s = (if wk i = nI q then pc_yl wk wt wv (nI q) i ++ [(wt i, wv i)] else pc_yl wk wt wv (nI q) i).foldl (pc_rd ts) (-9)
      rw [if_pos z, List.foldl_append, ← I]
      exact (if_pos y).symm
    · show wv i = (if wk i = nI q then pc_yl wk wt wv (nI q) i ++ [(wt i, wv i)] else pc_yl wk wt wv (nI q) i).foldl (pc_rd ts) (-9)
      rw [if_pos z, List.foldl_append, ← I]
      exact (if_neg y).symm
    · show s = (if wk i = nI q then pc_yl wk wt wv (nI q) i ++ [(wt i, wv i)] else pc_yl wk wt wv (nI q) i).foldl (pc_rd ts) (-9)
      rw [if_neg z, ← I]
theorem yh_intentOn {post : Int32 → Prop} {b : Nat} {k : Int32} (hb : b ≤ 8) (hsc : ∀ t, pc_n sc t ≤ 4 ∧ sc t = nI (pc_n sc t))
    (h0 : (∀ t, t < b → ∀ i, ¬ pc_hit st sc ky pl k t i) → post (-1))
    (h1 : ∀ t i, t < b → i < 4 → pc_hit st sc ky pl k t i → (∀ s, s < t → ∀ j, ¬ pc_hit st sc ky pl k s j) → post (nI (t * 4 + i))) : wpY_intentOn post (fc, nI b, fw, tt, st, al, sg, sc, ky, vl, pl, ca, wk, wt, wv) k := by
  refine pk_loop (σ := Unit) (fun f i _ => wY_intentOn_2 post k fc (nI b) fw tt st al sg sc ky vl pl ca wk wt wv f (nI i)) (fun i _ => ∀ s, s < i → ∀ j, ¬ pc_hit st sc ky pl k s j) b 0 () (Nat.zero_le b) (fun j hj => absurd hj (by omega)) ?_ ?_
  · intro f _ I
    simp only [wY_intentOn_2]
    exact br_t (nI_le (Nat.le_refl b) (by omega)) (h0 I)
  · intro f t _ ht I hw
    have et : (nI t).toNatClampNeg = t := nI_clamp (by omega)
    have vt8 : vp_in (nI t) 8 := vp_in_nI (by omega) (by omega)
    have hn := (hsc t).2
    have h4 := (hsc t).1
    have inner : pc_und st t → ∃ n29, wY_intentOn_29 post (wY_intentOn_2 post k fc (nI b) fw tt st al sg sc ky vl pl ca wk wt wv f) k (nI t) fc (nI b) fw tt st al sg sc ky vl pl ca wk wt wv n29 0 := by
      intro hu
      refine pk_loop (σ := Unit) (fun g i _ => wY_intentOn_29 post (wY_intentOn_2 post k fc (nI b) fw tt st al sg sc ky vl pl ca wk wt wv f) k (nI t) fc (nI b) fw tt st al sg sc ky vl pl ca wk wt wv g (nI i)) (fun i _ => ∀ j, j < i → ¬ pc_hit st sc ky pl k t j) (pc_n sc t) 0 () (Nat.zero_le _) (fun j hj => absurd hj (by omega)) ?_ ?_
      · intro g _ J
        simp only [wY_intentOn_29, et]
        rw [hn]
        exact ⟨vt8, br_t (nI_le (Nat.le_refl _) (by omega)) (nm_r (nI_1 t) (hw () (lt_s I (fun j z => J j z.2.1 z))))⟩
      · intro g i _ hi J hv
        have ec : (nI (t * 4 + i)).toNatClampNeg = t * 4 + i := nI_clamp (by omega)
        have vcc : vp_in (nI (t * 4 + i)) 32 := vp_in_nI (by omega) (by omega)
        simp only [wY_intentOn_29, et, pc_cell]
        rw [hn]
        refine ⟨vt8, br_f (nI_ge hi (by omega)) (br_f (pc_lt4 hi h4) (nm_e ⟨vcc, ?_⟩))⟩
        rw [ec]
        refine br_c (fun z => nm_r (nI_1 i) (hv () (lt_s J (fun y => y.2.2.1 z)))) (fun z => ⟨vcc, br_c (fun y => h1 t i ht (by omega) ⟨hu, hi, z, y⟩ I) (fun y => nm_r (nI_1 i) (hv () (lt_s J (fun x => y x.2.2.2))))⟩)
    simp only [wY_intentOn_2, wpY_undecided, et]
    refine br_f (nI_ge ht (by omega)) (br_f (pc_lt8 ht hb) ⟨vt8, ?_⟩)
    refine br_c (fun e1 => br_f (by decide) (inner (Or.inl e1))) (fun e1 => ⟨vt8, br_c (fun e2 => br_f (by decide) (inner (Or.inr e2))) (fun e2 => br_t (by trivial) (nm_r (nI_1 t) (hw () (lt_s I (fun j z => ?_)))))⟩)
    rcases z.1 with y | y
    · exact e1 y
    · exact e2 y
theorem yh_allAt {post : Int32 → Prop} {t n : Nat} (ht : t < 8) (hn : sc t = nI n) (h4 : n ≤ 4)
    (hT : (∀ i, i < n → pl (t * 4 + i) = tt t) → post 1) (hF : (∃ i, i < n ∧ ¬ pl (t * 4 + i) = tt t) → post 0) : wpY_allAtTs post (fc, fb, fw, tt, st, al, sg, sc, ky, vl, pl, ca, wk, wt, wv) (nI t) := by
  have et : (nI t).toNatClampNeg = t := nI_clamp (by omega)
  have vt8 : vp_in (nI t) 8 := vp_in_nI ht (by omega)
  refine pk_loop (σ := Unit) (fun f i _ => wY_allAtTs_2 post (nI t) fc fb fw tt st al sg sc ky vl pl ca wk wt wv f (nI i)) (fun i _ => ∀ j, j < i → pl (t * 4 + j) = tt t) n 0 () (Nat.zero_le n) (fun j hj => absurd hj (by omega)) ?_ ?_
  · intro f _ I
    simp only [wY_allAtTs_2, et, hn]
    exact ⟨vt8, br_t (nI_le (Nat.le_refl n) (by omega)) (hT I)⟩
  · intro f i _ hi I hw
    have ec : (nI (t * 4 + i)).toNatClampNeg = t * 4 + i := nI_clamp (by omega)
    simp only [wY_allAtTs_2, et, hn, pc_cell, ec]
    refine ⟨vt8, br_f (nI_ge hi (by omega)) (br_f (pc_lt4 hi h4) ⟨vp_in_nI (by omega) (by omega), vt8, br_c (fun z => nm_r (nI_1 i) (hw () ?_)) (fun z => hF ⟨i, hi, z⟩)⟩)⟩
    exact lt_s I z
theorem yh_abort {post : SY → Prop} {t : Nat} (ht : t < 8) (hp : post (fc, fb, fw, tt, upd st t 4, al, sg, sc, ky, vl, pl, ca, wk, wt, wv)) : wpY_decide post (fc, fb, fw, tt, st, al, sg, sc, ky, vl, pl, ca, wk, wt, wv) (nI t) 0 := by
  have et : (nI t).toNatClampNeg = t := nI_clamp (by omega)
  have vt8 : vp_in (nI t) 8 := vp_in_nI ht (by omega)
  simp only [wpY_decide, et]
  exact br_t (by trivial) ⟨vt8, nm_e hp⟩
theorem yh_commit {post : SY → Prop} {t n w : Nat} {L : Nat → List (Int32 × Int32)} (ht : t < 8) (hn : sc t = nI n) (h4 : n ≤ 4) (hw28 : w ≤ 28) (hV : pc_YV wk wt wv w L)
    (hp : ∀ wk' wt' wv', pc_YV wk' wt' wv' (w + n) (pc_cm ky vl (tt t) (t * 4) L n) → post (fc, fb, nI (w + n), tt, upd st t 3, al, sg, sc, ky, vl, pl, ca, wk', wt', wv')) : wpY_decide post (fc, fb, nI w, tt, st, al, sg, sc, ky, vl, pl, ca, wk, wt, wv) (nI t) 1 := by
  have et : (nI t).toNatClampNeg = t := nI_clamp (by omega)
  have vt8 : vp_in (nI t) 8 := vp_in_nI ht (by omega)
  simp only [wpY_decide, et]
  refine br_f (by decide) ⟨vt8, nm_e ?_⟩
  refine pk_loop (σ := (Nat → Int32) × (Nat → Int32) × (Nat → Int32)) (fun f i s => wY_decide_13 post (nI t) fc fb f (nI i) (nI (w + i)) tt (upd st t 3) al sg sc ky vl pl ca s.1 s.2.1 s.2.2) (fun i s => pc_YV s.1 s.2.1 s.2.2 (w + i) (pc_cm ky vl (tt t) (t * 4) L i)) n 0 (wk, wt, wv) (Nat.zero_le n) hV ?_ ?_
  · intro f s I
    simp only [wY_decide_13, et, hn]
    exact ⟨vt8, br_t (nI_le (Nat.le_refl n) (by omega)) (hp _ _ _ I)⟩
  · intro f i s hi I hw
    obtain ⟨s1, s2, s3⟩ := s
    have ec : (nI (t * 4 + i)).toNatClampNeg = t * 4 + i := nI_clamp (by omega)
    have ew : (nI (w + i)).toNatClampNeg = w + i := nI_clamp (by omega)
    have vcc : vp_in (nI (t * 4 + i)) 32 := vp_in_nI (by omega) (by omega)
    have vw : vp_in (nI (w + i)) 32 := vp_in_nI (by omega) (by omega)
    have I' : pc_YV s1 s2 s3 (w + i) (pc_cm ky vl (tt t) (t * 4) L i) := I
    simp only [wY_decide_13, et, hn, pc_cell, ec, ew]
    refine ⟨vt8, br_f (nI_ge hi (by omega)) (br_f (pc_lt4 hi h4) (br_f (nI_ge (b := 32) (by omega) (by decide)) ⟨vcc, vw, nm_e ⟨vt8, vw, nm_e ⟨vcc, vw, nm_e (nm_r (nI_1 (w + i)) (nm_r (nI_1 i) ?_))⟩⟩⟩))⟩
    exact hw (upd s1 (w + i) (ky (t * 4 + i)), upd s2 (w + i) (tt t), upd s3 (w + i) (vl (t * 4 + i))) (pc_YV_ap I')
theorem yh_prevent {post : SY → Prop} {t i : Nat} (ht : t < 8) (hi : i < 4) (hky : ∀ c, ∃ q, q < 16 ∧ ky c = nI q) (hp : post (fc, fb, fw, tt, st, al, sg, sc, ky, vl, pl, pc_ra ca (ky (t * 4 + i)).toNatClampNeg (tt t), wk, wt, wv)) : wpY_prevent post (fc, fb, fw, tt, st, al, sg, sc, ky, vl, pl, ca, wk, wt, wv) (nI t) (nI i) := by
  have et : (nI t).toNatClampNeg = t := nI_clamp (by omega)
  have vt8 : vp_in (nI t) 8 := vp_in_nI ht (by omega)
  have ec : (nI (t * 4 + i)).toNatClampNeg = t * 4 + i := nI_clamp (by omega)
  have vcc : vp_in (nI (t * 4 + i)) 32 := vp_in_nI (by omega) (by omega)
  obtain ⟨q, hq, ek⟩ := hky (t * 4 + i)
  have eq : (nI q).toNatClampNeg = q := nI_clamp (by omega)
  have vq : vp_in (nI q) 16 := vp_in_nI hq (by omega)
  rw [ek, eq] at hp
  unfold pc_ra at hp
  simp only [wpY_prevent, et, pc_cell, ec, ek]
  refine ⟨vcc, nm_e ⟨vt8, vq, ?_⟩⟩
  rw [eq]
  refine br_c (fun z => ?_) (fun z => ⟨vt8, vq, nm_e ?_⟩)
  · rw [if_pos z] at hp
    exact hp
  · rw [if_neg z] at hp
    exact hp
end
end
section
/-! ## both sides' further walks, and the relation -/
section
variable {fc fb fw : Int32} {ca vc vt vv tt st al sg sc ky vl pl wk wt wv : Nat → Int32}
theorem pc_d1 : ((1 : Int32) = 0) = False := eq_false (by decide)
theorem pc_dm1 : ((-1 : Int32) = 0) = False := eq_false (by decide)
theorem pc_dm2 : ((-2 : Int32) = 0) = False := eq_false (by decide)
theorem pc_dm3 : ((-3 : Int32) = 0) = False := eq_false (by decide)
theorem pc_nb1 : vp_nar .boolean 1 = 1 := by decide +kernel
theorem pc_nb0 : vp_nar .boolean 0 = 0 := by decide +kernel
theorem pc_div4 {s j : Nat} (hs : s < 8) (hj : j < 4) : nI (s * 4 + j) / 4 = nI s := by
  have h : nI (s * 4 + j) / nI 4 = nI ((s * 4 + j) / 4) := pk_div (by omega) (by omega) (by omega)
  rw [show (s * 4 + j) / 4 = s by omega] at h
  exact h
theorem xh_decide {post : Int32 → SX → Prop} {t n : Nat} {L : Nat → List (Int32 × Int32)} (ht : t < 8) (hn : sc t = nI n) (h4 : n ≤ 4) (hky : ∀ c, ∃ q, q < 16 ∧ ky c = nI q)
    (hd : ∀ i j, i < j → j < n → ¬ ky (t * 4 + i) = ky (t * 4 + j)) (hV : pc_XV vc vt vv L) (hL : ∀ q, (L q).length ≤ 7)
    (hA : (∃ i, i < n ∧ ¬ pl (t * 4 + i) = tt t) → post 4 (fc, fb, ca, vc, vt, vv, tt, upd st t 4, al, sg, sc, ky, vl, pl))
    (hC : (∀ i, i < n → pl (t * 4 + i) = tt t) → ∀ vc' vt' vv', pc_XV vc' vt' vv' (pc_cm ky vl (tt t) (t * 4) L n) → post 3 (fc, fb, ca, vc', vt', vv', tt, upd st t 3, al, sg, sc, ky, vl, pl)) : wpX_decideByPlacement post (fc, fb, ca, vc, vt, vv, tt, st, al, sg, sc, ky, vl, pl) (nI t) := by
  have et : (nI t).toNatClampNeg = t := nI_clamp (by omega)
  have vt8 : vp_in (nI t) 8 := vp_in_nI ht (by omega)
  unfold wpX_decideByPlacement
  refine xh_allAt ht hn h4 (fun hT => br_f (by decide) (xh_commit ht hn h4 hky hd hV hL (hC hT))) (fun hF => br_t (by trivial) ?_)
  simp only [wpX_abort, et]
  exact ⟨vt8, nm_e (hA hF)⟩
theorem yh_fin {post : Int32 → SY → Prop} {t n w : Nat} {L : Nat → List (Int32 × Int32)} (ht : t < 8) (hn : sc t = nI n) (h4 : n ≤ 4) (hw28 : w ≤ 28) (hV : pc_YV wk wt wv w L)
    (hA : (∃ i, i < n ∧ ¬ pl (t * 4 + i) = tt t) → post 4 (fc, fb, nI w, tt, upd st t 4, al, sg, sc, ky, vl, pl, ca, wk, wt, wv))
    (hC : (∀ i, i < n → pl (t * 4 + i) = tt t) → ∀ wk' wt' wv', pc_YV wk' wt' wv' (w + n) (pc_cm ky vl (tt t) (t * 4) L n) → post 3 (fc, fb, nI (w + n), tt, upd st t 3, al, sg, sc, ky, vl, pl, ca, wk', wt', wv')) : wY_finalize_74 post (nI t) fc fb (nI w) tt st al sg sc ky vl pl ca wk wt wv := by
  unfold wY_finalize_74
  refine yh_allAt ht hn h4 (fun hT => yh_commit ht hn h4 hw28 hV (fun wk' wt' wv' h => br_f (by decide) (hC hT wk' wt' wv' h))) (fun hF => yh_abort ht (br_t (by trivial) (hA hF)))
theorem yh_rec {post : Int32 → SY → Prop} {t n w : Nat} {L : Nat → List (Int32 × Int32)} (ht : t < 8) (hn : sc t = nI n) (h4 : n ≤ 4) (hw28 : w ≤ 28) (hV : pc_YV wk wt wv w L)
    (hA : (∃ i, i < n ∧ ¬ pl (t * 4 + i) = tt t) → post 4 (fc, fb, nI w, tt, upd st t 4, al, sg, sc, ky, vl, pl, ca, wk, wt, wv))
    (hC : (∀ i, i < n → pl (t * 4 + i) = tt t) → ∀ wk' wt' wv', pc_YV wk' wt' wv' (w + n) (pc_cm ky vl (tt t) (t * 4) L n) → post 3 (fc, fb, nI (w + n), tt, upd st t 3, al, sg, sc, ky, vl, pl, ca, wk', wt', wv')) : wY_recover_81 post (nI t) fc fb (nI w) tt st al sg sc ky vl pl ca wk wt wv := by
  unfold wY_recover_81
  refine yh_allAt ht hn h4 (fun hT => yh_commit ht hn h4 hw28 hV (fun wk' wt' wv' h => br_f (by decide) (hC hT wk' wt' wv' h))) (fun hF => yh_abort ht (br_t (by trivial) (hA hF)))
theorem yh_add {post : Int32 → SY → Prop} {t n : Nat} {k v : Int32} (ht : t < 8) (hn : sc t = nI n) (h4 : n ≤ 4)
    (hT : (∃ i, i < n ∧ ky (t * 4 + i) = k) → post (-6) (fc, fb, fw, tt, st, al, sg, sc, ky, vl, pl, ca, wk, wt, wv)) (hF : (∀ i, i < n → ¬ ky (t * 4 + i) = k) → wY_addWrite_103 post (nI t) k v fc fb fw tt st al sg sc ky vl pl ca wk wt wv) : ∃ f, wY_addWrite_62 post (nI t) k v fc fb fw tt st al sg sc ky vl pl ca wk wt wv f 0 := by
  have et : (nI t).toNatClampNeg = t := nI_clamp (by omega)
  have vt8 : vp_in (nI t) 8 := vp_in_nI ht (by omega)
  refine pk_loop (σ := Unit) (fun f i _ => wY_addWrite_62 post (nI t) k v fc fb fw tt st al sg sc ky vl pl ca wk wt wv f (nI i)) (fun i _ => ∀ j, j < i → ¬ ky (t * 4 + j) = k) n 0 () (Nat.zero_le n) (fun j hj => absurd hj (by omega)) ?_ ?_
  · intro f _ I
    simp only [wY_addWrite_62, et, hn]
    exact ⟨vt8, br_t (nI_le (Nat.le_refl n) (by omega)) (hF I)⟩
  · intro f i _ hi I hw
    have ec : (nI (t * 4 + i)).toNatClampNeg = t * 4 + i := nI_clamp (by omega)
    simp only [wY_addWrite_62, et, hn, pc_cell, ec]
    refine ⟨vt8, br_f (nI_ge hi (by omega)) (br_f (pc_lt4 hi h4) ⟨vp_in_nI (by omega) (by omega), br_c (fun z => hT ⟨i, hi, z⟩) (fun z => nm_r (nI_1 i) (hw () ?_))⟩)⟩
    exact lt_s I z
theorem yh_del {post : Int32 → SY → Prop} {t n : Nat} (ht : t < 8) (hn : sc t = nI n) (h4 : n ≤ 4)
    (hF : (∃ i, i < n ∧ pl (t * 4 + i) = 0) → post (-8) (fc, fb, fw, tt, st, al, sg, sc, ky, vl, pl, ca, wk, wt, wv)) (hT : (∀ i, i < n → ¬ pl (t * 4 + i) = 0) → wY_finalize_74 post (nI t) fc fb fw tt st al sg sc ky vl pl ca wk wt wv) : ∃ f, wY_finalize_37 post (nI t) fc fb fw tt st al sg sc ky vl pl ca wk wt wv f 0 := by
  have et : (nI t).toNatClampNeg = t := nI_clamp (by omega)
  have vt8 : vp_in (nI t) 8 := vp_in_nI ht (by omega)
  refine pk_loop (σ := Unit) (fun f i _ => wY_finalize_37 post (nI t) fc fb fw tt st al sg sc ky vl pl ca wk wt wv f (nI i)) (fun i _ => ∀ j, j < i → ¬ pl (t * 4 + j) = 0) n 0 () (Nat.zero_le n) (fun j hj => absurd hj (by omega)) ?_ ?_
  · intro f _ I
    simp only [wY_finalize_37, et, hn]
    exact ⟨vt8, br_t (nI_le (Nat.le_refl n) (by omega)) (hT I)⟩
  · intro f i _ hi I hw
    have ec : (nI (t * 4 + i)).toNatClampNeg = t * 4 + i := nI_clamp (by omega)
    simp only [wY_finalize_37, et, hn, pc_cell, ec]
    refine ⟨vt8, br_f (nI_ge hi (by omega)) (br_f (pc_lt4 hi h4) ⟨vp_in_nI (by omega) (by omega), br_c (fun z => hF ⟨i, hi, z⟩) (fun z => nm_r (nI_1 i) (hw () ?_))⟩)⟩
    exact lt_s I z
theorem yh_prevAll {post : Int32 → SY → Prop} {t n : Nat} (ht : t < 8) (hn : sc t = nI n) (h4 : n ≤ 4) (hky : ∀ c, ∃ q, q < 16 ∧ ky c = nI q)
    (hp : wY_recover_81 post (nI t) fc fb fw tt st al sg sc ky vl pl (pc_pv ca ky pl (tt t) (t * 4) n) wk wt wv) : ∃ f, wY_recover_41 post (nI t) f 0 fc fb fw tt st al sg sc ky vl pl ca wk wt wv := by
  have et : (nI t).toNatClampNeg = t := nI_clamp (by omega)
  have vt8 : vp_in (nI t) 8 := vp_in_nI ht (by omega)
  refine pk_loop (σ := Nat → Int32) (fun f i s => wY_recover_41 post (nI t) f (nI i) fc fb fw tt st al sg sc ky vl pl s wk wt wv) (fun i s => s = pc_pv ca ky pl (tt t) (t * 4) i) n 0 ca (Nat.zero_le n) rfl ?_ ?_
  · intro f s I
    simp only [wY_recover_41, et, hn]
    exact ⟨vt8, br_t (nI_le (Nat.le_refl n) (by omega)) (by rw [I]; exact hp)⟩
  · intro f i s hi I hw
    have ec : (nI (t * 4 + i)).toNatClampNeg = t * 4 + i := nI_clamp (by omega)
    simp only [wY_recover_41, et, hn, pc_cell, ec]
    refine ⟨vt8, br_f (nI_ge hi (by omega)) (br_f (pc_lt4 hi h4) ⟨vp_in_nI (by omega) (by omega), br_c (fun z => yh_prevent ht (by omega) hky (nm_r (nI_1 i) (hw _ ?_))) (fun z => nm_r (nI_1 i) (hw _ ?_))⟩)⟩
    · show pc_ra s _ _ = (if pl (t * 4 + i) = 0 then pc_ra (pc_pv ca ky pl (tt t) (t * 4) i) (ky (t * 4 + i)).toNatClampNeg (tt t) else pc_pv ca ky pl (tt t) (t * 4) i)
      rw [if_pos z, I]
    · show s = (if pl (t * 4 + i) = 0 then pc_ra (pc_pv ca ky pl (tt t) (t * 4) i) (ky (t * 4 + i)).toNatClampNeg (tt t) else pc_pv ca ky pl (tt t) (t * 4) i)
      rw [if_neg z, I]
theorem pc_raI {b cp w q : Nat} {L : Nat → List (Int32 × Int32)} {x : Int32} (h : pc_Inv b cp w ca tt st al sg sc ky pl L) (hx : ¬ x < 0) : pc_Inv b cp w (pc_ra ca q x) tt st al sg sc ky pl L := by
  unfold pc_ra
  split
  · exact h
  · exact pc_cache h hx
theorem pc_pvI {b cp w c : Nat} {L : Nat → List (Int32 × Int32)} {x : Int32} (h : pc_Inv b cp w ca tt st al sg sc ky pl L) (hx : ¬ x < 0) (i : Nat) : pc_Inv b cp w (pc_pv ca ky pl x c i) tt st al sg sc ky pl L := by
  induction i with
  | zero => exact h
  | succ i ih =>
    show pc_Inv b cp w (if pl (c + i) = 0 then pc_ra (pc_pv ca ky pl x c i) (ky (c + i)).toNatClampNeg x else pc_pv ca ky pl x c i) tt st al sg sc ky pl L
    split
    · exact pc_raI ih hx
    · exact ih
end
/-- the two sides: the same counts, arrays and caches; the same versions of each key, kept per key on one side and in one list on the other -/
def i_Rel (_ : Nat) (u : SX) (v : SY) : Prop := ∃ (b cp w : Nat) (ca vc vt vv tt st al sg sc ky vl pl wk wt wv : Nat → Int32) (L : Nat → List (Int32 × Int32)),
  u = (nI cp, nI b, ca, vc, vt, vv, tt, st, al, sg, sc, ky, vl, pl) ∧ v = (nI cp, nI b, nI w, tt, st, al, sg, sc, ky, vl, pl, ca, wk, wt, wv) ∧ pc_Inv b cp w ca tt st al sg sc ky pl L ∧ pc_XV vc vt vv L ∧ pc_YV wk wt wv w L
theorem i_up {k : Nat} {u : SX} {v : SY} (h : i_Rel k u v) : i_Rel (k + 4) u v := h
theorem i_vc0 (k0 : Int32) : wpX_init (fun u => wpY_init (fun v => i_Rel 1 u v) k0) k0 := by
  have base : ∀ cp, cp ≤ 8 → i_Rel 1 (nI cp, 0, (fun _ => 0), (fun _ => 0), (fun _ => 0), (fun _ => 0), (fun _ => 0), (fun _ => 0), (fun _ => 0), (fun _ => 0), (fun _ => 0), (fun _ => 0), (fun _ => 0), (fun _ => 0)) (nI cp, 0, 0, (fun _ => 0), (fun _ => 0), (fun _ => 0), (fun _ => 0), (fun _ => 0), (fun _ => 0), (fun _ => 0), (fun _ => 0), (fun _ => 0), (fun _ => 0), (fun _ => 0), (fun _ => 0)) := by
    intro cp h
    exact ⟨0, cp, 0, _, _, _, _, _, _, _, _, _, _, _, _, _, _, _, _, rfl, rfl, pc_Inv0 h, fun q _ => ⟨0, by omega, nI_0.symm, rfl⟩, fun q _ => rfl⟩
  by_cases h1 : 1 ≤ k0
  · by_cases h8 : k0 ≤ 8
    · obtain ⟨cp, hc, rfl⟩ := nI_of2 (x := k0) (M := 8) (n := 8) (by decide) (Int32.not_lt.mpr (Int32.le_trans (by decide) h1)) h8
      exact br_t h1 (br_t h8 (br_t h1 (br_t h8 (base cp hc))))
    · exact br_t h1 (br_f h8 (br_t h1 (br_f h8 (base 8 (by omega)))))
  · exact br_f h1 (br_f h1 (br_t (by decide) (base 1 (by omega))))
end
section
/-! ## the calls, one by one -/
theorem i_vc_begin {k : Nat} {u : SX} {v : SY} (I : i_Rel k u v) (hk : k + 4 ≤ 2049) (v1 : Int32) : wpX_begin (fun r u' => wpY_begin (fun r' v' => r' = r ∧ i_Rel (k + 4) u' v') v v1) u v1 := by
  obtain ⟨b, cp, w, ca, vc, vt, vv, tt, st, al, sg, sc, ky, vl, pl, wk, wt, wv, L, rfl, rfl, hI, hX, hY⟩ := I
  have R : i_Rel (k + 4) (nI cp, nI b, ca, vc, vt, vv, tt, st, al, sg, sc, ky, vl, pl) (nI cp, nI b, nI w, tt, st, al, sg, sc, ky, vl, pl, ca, wk, wt, wv) := ⟨_, _, _, _, _, _, _, _, _, _, _, _, _, _, _, _, _, _, _, rfl, rfl, hI, hX, hY⟩
  obtain ⟨⟨i1, i1'⟩, i2, i3, i4, i5, i6, i7, i8, i9, i10, i11, i12, i13⟩ := id hI
  by_cases h1 : v1 < 1
  · simp only [wpX_begin, wpX_isTimestamp, wpY_begin, h1, true_implies, false_implies, not_true_eq_false, not_false_eq_true, and_true, true_and, and_self, forall_eq, pc_d1, pc_dm1, pc_dm2, pc_dm3, pc_nb0, pc_nb1]
    exact R
  · by_cases h2 : 1000000 < v1
    · have h3 : ¬ v1 ≤ 1000000 := Int32.not_le.mpr h2
      simp only [wpX_begin, wpX_isTimestamp, wpY_begin, h1, h2, h3, true_implies, false_implies, not_true_eq_false, not_false_eq_true, and_true, true_and, and_self, forall_eq, pc_d1, pc_dm1, pc_dm2, pc_dm3, pc_nb0, pc_nb1]
      exact R
    · have h3 : v1 ≤ 1000000 := Int32.not_lt.mp h2
      by_cases h4 : b < cp
      · have c1 : nI b < nI cp := nI_lt h4 (by omega)
        have c2 : ¬ nI cp ≤ nI b := nI_ge h4 (by omega)
        have c3 : nI b < 8 := nI_lt (b := 8) (by omega) (by decide)
        have c4 : vp_in (nI b) 8 := vp_in_nI (by omega) (by omega)
        have c5 : (nI b).toNatClampNeg = b := nI_clamp (by omega)
        simp only [wpX_begin, wpX_isTimestamp, wpY_begin, h1, h2, h3, c1, c2, c3, c4, c5, true_implies, false_implies, not_true_eq_false, not_false_eq_true, and_true, true_and, and_self, forall_eq, pc_d1, pc_dm1, pc_dm2, pc_dm3, pc_nb0, pc_nb1]
        rw [pc_same (f := sg) (i8 b (Nat.le_refl b)).2.1, pc_same (f := sc) (i8 b (Nat.le_refl b)).1, nI_1]
        exact ⟨_, _, _, _, _, _, _, _, _, _, _, _, _, _, _, _, _, _, _, rfl, rfl, pc_begin hI h4 (Int32.not_lt.mpr (Int32.le_trans (by decide) (Int32.not_lt.mp h1))), hX, hY⟩
      · have c1 : ¬ nI b < nI cp := nI_nlt (by omega) (by omega)
        have c2 : nI cp ≤ nI b := nI_le (by omega) (by omega)
        simp only [wpX_begin, wpX_isTimestamp, wpY_begin, h1, h2, h3, c1, c2, true_implies, false_implies, not_true_eq_false, not_false_eq_true, and_true, true_and, and_self, forall_eq, pc_d1, pc_dm1, pc_dm2, pc_dm3, pc_nb0, pc_nb1]
        exact R
theorem i_vc_stage {k : Nat} {u : SX} {v : SY} (I : i_Rel k u v) (hk : k + 4 ≤ 2049) (v1 : Int32) : wpX_stage (fun r u' => wpY_stage (fun r' v' => r' = r ∧ i_Rel (k + 4) u' v') v v1) u v1 := by
  obtain ⟨b, cp, w, ca, vc, vt, vv, tt, st, al, sg, sc, ky, vl, pl, wk, wt, wv, L, rfl, rfl, hI, hX, hY⟩ := I
  have R : i_Rel (k + 4) (nI cp, nI b, ca, vc, vt, vv, tt, st, al, sg, sc, ky, vl, pl) (nI cp, nI b, nI w, tt, st, al, sg, sc, ky, vl, pl, ca, wk, wt, wv) := ⟨_, _, _, _, _, _, _, _, _, _, _, _, _, _, _, _, _, _, _, rfl, rfl, hI, hX, hY⟩
  obtain ⟨⟨i1, i1'⟩, i2, i3, i4, i5, i6, i7, i8, i9, i10, i11, i12, i13⟩ := id hI
  rcases pc_ix v1 b (by omega) with ⟨h, h'⟩ | ⟨h1, h2, h3, h4⟩ | ⟨t, ht, rfl⟩
  · simp only [wpX_stage, wpX_coordinatorRefusal, wpX_isTxn, wpY_stage, wpY_validTxn, h, true_implies, false_implies, not_true_eq_false, not_false_eq_true, and_true, true_and, and_self, forall_eq, pc_d1, pc_dm1, pc_dm2, pc_dm3, pc_nb0, pc_nb1]
    exact R
  · simp only [wpX_stage, wpX_coordinatorRefusal, wpX_isTxn, wpY_stage, wpY_validTxn, h1, h4, true_implies, false_implies, not_true_eq_false, not_false_eq_true, and_true, true_and, and_self, forall_eq, pc_d1, pc_dm1, pc_dm2, pc_dm3, pc_nb0, pc_nb1]
    exact R
  · have ht8 : t < 8 := by omega
    have et : (nI t).toNatClampNeg = t := nI_clamp (by omega)
    have vt8 : vp_in (nI t) 8 := vp_in_nI ht8 (by omega)
    have f1 : ¬ nI t < 0 := nI_pos (by omega)
    have f2 : ¬ nI b ≤ nI t := nI_ge ht (by omega)
    by_cases hs : st t = 1
    · by_cases ha : al t = 0
      · simp only [wpX_stage, wpX_coordinatorRefusal, wpX_isTxn, wpY_stage, wpY_validTxn, f1, f2, et, vt8, hs, ha, true_implies, false_implies, not_true_eq_false, not_false_eq_true, and_true, true_and, and_self, forall_eq, pc_d1, pc_dm1, pc_dm2, pc_dm3, pc_nb0, pc_nb1]
        exact R
      · by_cases hn : sc t = 0
        · simp only [wpX_stage, wpX_coordinatorRefusal, wpX_isTxn, wpY_stage, wpY_validTxn, f1, f2, et, vt8, hs, ha, hn, true_implies, false_implies, not_true_eq_false, not_false_eq_true, and_true, true_and, and_self, forall_eq, pc_d1, pc_dm1, pc_dm2, pc_dm3, pc_nb0, pc_nb1]
          exact R
        · simp only [wpX_stage, wpX_coordinatorRefusal, wpX_isTxn, wpY_stage, wpY_validTxn, f1, f2, et, vt8, hs, ha, hn, true_implies, false_implies, not_true_eq_false, not_false_eq_true, and_true, true_and, and_self, forall_eq, pc_d1, pc_dm1, pc_dm2, pc_dm3, pc_nb0, pc_nb1]
          exact ⟨_, _, _, _, _, _, _, _, _, _, _, _, _, _, _, _, _, _, _, rfl, rfl, pc_stage hI ht hs, hX, hY⟩
    · simp only [wpX_stage, wpX_coordinatorRefusal, wpX_isTxn, wpY_stage, wpY_validTxn, f1, f2, et, vt8, hs, true_implies, false_implies, not_true_eq_false, not_false_eq_true, and_true, true_and, and_self, forall_eq, pc_d1, pc_dm1, pc_dm2, pc_dm3, pc_nb0, pc_nb1]
      exact R
theorem i_vc_rollback {k : Nat} {u : SX} {v : SY} (I : i_Rel k u v) (hk : k + 4 ≤ 2049) (v1 : Int32) : wpX_rollback (fun r u' => wpY_rollback (fun r' v' => r' = r ∧ i_Rel (k + 4) u' v') v v1) u v1 := by
  obtain ⟨b, cp, w, ca, vc, vt, vv, tt, st, al, sg, sc, ky, vl, pl, wk, wt, wv, L, rfl, rfl, hI, hX, hY⟩ := I
  have R : i_Rel (k + 4) (nI cp, nI b, ca, vc, vt, vv, tt, st, al, sg, sc, ky, vl, pl) (nI cp, nI b, nI w, tt, st, al, sg, sc, ky, vl, pl, ca, wk, wt, wv) := ⟨_, _, _, _, _, _, _, _, _, _, _, _, _, _, _, _, _, _, _, rfl, rfl, hI, hX, hY⟩
  obtain ⟨⟨i1, i1'⟩, i2, i3, i4, i5, i6, i7, i8, i9, i10, i11, i12, i13⟩ := id hI
  rcases pc_ix v1 b (by omega) with ⟨h, h'⟩ | ⟨h1, h2, h3, h4⟩ | ⟨t, ht, rfl⟩
  · simp only [wpX_rollback, wpX_abort, wpX_coordinatorRefusal, wpX_isTxn, wpY_rollback, wpY_decide, wpY_validTxn, h, true_implies, false_implies, not_true_eq_false, not_false_eq_true, and_true, true_and, and_self, forall_eq, pc_d1, pc_dm1, pc_dm2, pc_dm3, pc_nb0, pc_nb1]
    exact R
  · simp only [wpX_rollback, wpX_abort, wpX_coordinatorRefusal, wpX_isTxn, wpY_rollback, wpY_decide, wpY_validTxn, h1, h4, true_implies, false_implies, not_true_eq_false, not_false_eq_true, and_true, true_and, and_self, forall_eq, pc_d1, pc_dm1, pc_dm2, pc_dm3, pc_nb0, pc_nb1]
    exact R
  · have ht8 : t < 8 := by omega
    have et : (nI t).toNatClampNeg = t := nI_clamp (by omega)
    have vt8 : vp_in (nI t) 8 := vp_in_nI ht8 (by omega)
    have f1 : ¬ nI t < 0 := nI_pos (by omega)
    have f2 : ¬ nI b ≤ nI t := nI_ge ht (by omega)
    by_cases hs : st t = 1
    · by_cases ha : al t = 0
      · simp only [wpX_rollback, wpX_abort, wpX_coordinatorRefusal, wpX_isTxn, wpY_rollback, wpY_decide, wpY_validTxn, f1, f2, et, vt8, hs, ha, true_implies, false_implies, not_true_eq_false, not_false_eq_true, and_true, true_and, and_self, forall_eq, pc_d1, pc_dm1, pc_dm2, pc_dm3, pc_nb0, pc_nb1]
        exact R
      · simp only [wpX_rollback, wpX_abort, wpX_coordinatorRefusal, wpX_isTxn, wpY_rollback, wpY_decide, wpY_validTxn, f1, f2, et, vt8, hs, ha, true_implies, false_implies, not_true_eq_false, not_false_eq_true, and_true, true_and, and_self, forall_eq, pc_d1, pc_dm1, pc_dm2, pc_dm3, pc_nb0, pc_nb1]
        exact ⟨_, _, _, _, _, _, _, _, _, _, _, _, _, _, _, _, _, _, _, rfl, rfl, pc_abort hI ht (by rw [hs]; decide), hX, hY⟩
    · simp only [wpX_rollback, wpX_abort, wpX_coordinatorRefusal, wpX_isTxn, wpY_rollback, wpY_decide, wpY_validTxn, f1, f2, et, vt8, hs, true_implies, false_implies, not_true_eq_false, not_false_eq_true, and_true, true_and, and_self, forall_eq, pc_d1, pc_dm1, pc_dm2, pc_dm3, pc_nb0, pc_nb1]
      exact R
theorem i_vc_crash {k : Nat} {u : SX} {v : SY} (I : i_Rel k u v) (hk : k + 4 ≤ 2049) (v1 : Int32) : wpX_crash (fun r u' => wpY_crash (fun r' v' => r' = r ∧ i_Rel (k + 4) u' v') v v1) u v1 := by
  obtain ⟨b, cp, w, ca, vc, vt, vv, tt, st, al, sg, sc, ky, vl, pl, wk, wt, wv, L, rfl, rfl, hI, hX, hY⟩ := I
  have R : i_Rel (k + 4) (nI cp, nI b, ca, vc, vt, vv, tt, st, al, sg, sc, ky, vl, pl) (nI cp, nI b, nI w, tt, st, al, sg, sc, ky, vl, pl, ca, wk, wt, wv) := ⟨_, _, _, _, _, _, _, _, _, _, _, _, _, _, _, _, _, _, _, rfl, rfl, hI, hX, hY⟩
  obtain ⟨⟨i1, i1'⟩, i2, i3, i4, i5, i6, i7, i8, i9, i10, i11, i12, i13⟩ := id hI
  rcases pc_ix v1 b (by omega) with ⟨h, h'⟩ | ⟨h1, h2, h3, h4⟩ | ⟨t, ht, rfl⟩
  · simp only [wpX_crash, wpX_isTxn, wpY_crash, wpY_validTxn, h, true_implies, false_implies, not_true_eq_false, not_false_eq_true, and_true, true_and, and_self, forall_eq, pc_d1, pc_dm1, pc_dm2, pc_dm3, pc_nb0, pc_nb1]
    exact R
  · simp only [wpX_crash, wpX_isTxn, wpY_crash, wpY_validTxn, h1, h4, true_implies, false_implies, not_true_eq_false, not_false_eq_true, and_true, true_and, and_self, forall_eq, pc_d1, pc_dm1, pc_dm2, pc_dm3, pc_nb0, pc_nb1]
    exact R
  · have ht8 : t < 8 := by omega
    have et : (nI t).toNatClampNeg = t := nI_clamp (by omega)
    have vt8 : vp_in (nI t) 8 := vp_in_nI ht8 (by omega)
    have f1 : ¬ nI t < 0 := nI_pos (by omega)
    have f2 : ¬ nI b ≤ nI t := nI_ge ht (by omega)
    by_cases ha : al t = 0
    · simp only [wpX_crash, wpX_isTxn, wpY_crash, wpY_validTxn, f1, f2, et, vt8, ha, true_implies, false_implies, not_true_eq_false, not_false_eq_true, and_true, true_and, and_self, forall_eq, pc_d1, pc_dm1, pc_dm2, pc_dm3, pc_nb0, pc_nb1]
      exact R
    · simp only [wpX_crash, wpX_isTxn, wpY_crash, wpY_validTxn, f1, f2, et, vt8, ha, true_implies, false_implies, not_true_eq_false, not_false_eq_true, and_true, true_and, and_self, forall_eq, pc_d1, pc_dm1, pc_dm2, pc_dm3, pc_nb0, pc_nb1]
      exact ⟨_, _, _, _, _, _, _, _, _, _, _, _, _, _, _, _, _, _, _, rfl, rfl, pc_crash hI, hX, hY⟩
theorem i_vc_status {k : Nat} {u : SX} {v : SY} (I : i_Rel k u v) (hk : k + 4 ≤ 2049) (v1 : Int32) : wpX_status (fun r => wpY_status (fun r' => r' = r ∧ i_Rel (k + 4) u v) v v1) u v1 := by
  obtain ⟨b, cp, w, ca, vc, vt, vv, tt, st, al, sg, sc, ky, vl, pl, wk, wt, wv, L, rfl, rfl, hI, hX, hY⟩ := I
  have R : i_Rel (k + 4) (nI cp, nI b, ca, vc, vt, vv, tt, st, al, sg, sc, ky, vl, pl) (nI cp, nI b, nI w, tt, st, al, sg, sc, ky, vl, pl, ca, wk, wt, wv) := ⟨_, _, _, _, _, _, _, _, _, _, _, _, _, _, _, _, _, _, _, rfl, rfl, hI, hX, hY⟩
  obtain ⟨⟨i1, i1'⟩, i2, i3, i4, i5, i6, i7, i8, i9, i10, i11, i12, i13⟩ := id hI
  rcases pc_ix v1 b (by omega) with ⟨h, h'⟩ | ⟨h1, h2, h3, h4⟩ | ⟨t, ht, rfl⟩
  · simp only [wpX_status, wpX_isTxn, wpY_status, wpY_validTxn, h, true_implies, false_implies, not_true_eq_false, not_false_eq_true, and_true, true_and, and_self, forall_eq, pc_d1, pc_dm1, pc_dm2, pc_dm3, pc_nb0, pc_nb1]
    exact R
  · simp only [wpX_status, wpX_isTxn, wpY_status, wpY_validTxn, h1, h4, true_implies, false_implies, not_true_eq_false, not_false_eq_true, and_true, true_and, and_self, forall_eq, pc_d1, pc_dm1, pc_dm2, pc_dm3, pc_nb0, pc_nb1]
    exact R
  · have ht8 : t < 8 := by omega
    have et : (nI t).toNatClampNeg = t := nI_clamp (by omega)
    have vt8 : vp_in (nI t) 8 := vp_in_nI ht8 (by omega)
    have f1 : ¬ nI t < 0 := nI_pos (by omega)
    have f2 : ¬ nI b ≤ nI t := nI_ge ht (by omega)
    simp only [wpX_status, wpX_isTxn, wpY_status, wpY_validTxn, f1, f2, et, vt8, true_implies, false_implies, not_true_eq_false, not_false_eq_true, and_true, true_and, and_self, forall_eq, pc_d1, pc_dm1, pc_dm2, pc_dm3, pc_nb0, pc_nb1]
    exact R
theorem i_vc_isAlive {k : Nat} {u : SX} {v : SY} (I : i_Rel k u v) (hk : k + 4 ≤ 2049) (v1 : Int32) : wpX_isAlive (fun r => wpY_isAlive (fun r' => r' = r ∧ i_Rel (k + 4) u v) v v1) u v1 := by
  obtain ⟨b, cp, w, ca, vc, vt, vv, tt, st, al, sg, sc, ky, vl, pl, wk, wt, wv, L, rfl, rfl, hI, hX, hY⟩ := I
  have R : i_Rel (k + 4) (nI cp, nI b, ca, vc, vt, vv, tt, st, al, sg, sc, ky, vl, pl) (nI cp, nI b, nI w, tt, st, al, sg, sc, ky, vl, pl, ca, wk, wt, wv) := ⟨_, _, _, _, _, _, _, _, _, _, _, _, _, _, _, _, _, _, _, rfl, rfl, hI, hX, hY⟩
  obtain ⟨⟨i1, i1'⟩, i2, i3, i4, i5, i6, i7, i8, i9, i10, i11, i12, i13⟩ := id hI
  rcases pc_ix v1 b (by omega) with ⟨h, h'⟩ | ⟨h1, h2, h3, h4⟩ | ⟨t, ht, rfl⟩
  · simp only [wpX_isAlive, wpX_isTxn, wpY_isAlive, wpY_validTxn, h, true_implies, false_implies, not_true_eq_false, not_false_eq_true, and_true, true_and, and_self, forall_eq, pc_d1, pc_dm1, pc_dm2, pc_dm3, pc_nb0, pc_nb1]
    exact R
  · simp only [wpX_isAlive, wpX_isTxn, wpY_isAlive, wpY_validTxn, h1, h4, true_implies, false_implies, not_true_eq_false, not_false_eq_true, and_true, true_and, and_self, forall_eq, pc_d1, pc_dm1, pc_dm2, pc_dm3, pc_nb0, pc_nb1]
    exact R
  · have ht8 : t < 8 := by omega
    have et : (nI t).toNatClampNeg = t := nI_clamp (by omega)
    have vt8 : vp_in (nI t) 8 := vp_in_nI ht8 (by omega)
    have f1 : ¬ nI t < 0 := nI_pos (by omega)
    have f2 : ¬ nI b ≤ nI t := nI_ge ht (by omega)
    rcases i5 t with ha | ha
    · simp only [wpX_isAlive, wpX_isTxn, wpY_isAlive, wpY_validTxn, f1, f2, et, vt8, ha, true_implies, false_implies, not_true_eq_false, not_false_eq_true, and_true, true_and, and_self, forall_eq, pc_d1, pc_dm1, pc_dm2, pc_dm3, pc_nb0, pc_nb1]
      exact ⟨rfl, R⟩
    · simp only [wpX_isAlive, wpX_isTxn, wpY_isAlive, wpY_validTxn, f1, f2, et, vt8, ha, true_implies, false_implies, not_true_eq_false, not_false_eq_true, and_true, true_and, and_self, forall_eq, pc_d1, pc_dm1, pc_dm2, pc_dm3, pc_nb0, pc_nb1]
      exact ⟨rfl, R⟩
theorem i_vc_slotTs {k : Nat} {u : SX} {v : SY} (I : i_Rel k u v) (hk : k + 4 ≤ 2049) (v1 : Int32) (v2 : Int32) : wpX_slotTs (fun r => wpY_slotTs (fun r' => r' = r ∧ i_Rel (k + 4) u v) v v1 v2) u v1 v2 := by
  obtain ⟨b, cp, w, ca, vc, vt, vv, tt, st, al, sg, sc, ky, vl, pl, wk, wt, wv, L, rfl, rfl, hI, hX, hY⟩ := I
  have R : i_Rel (k + 4) (nI cp, nI b, ca, vc, vt, vv, tt, st, al, sg, sc, ky, vl, pl) (nI cp, nI b, nI w, tt, st, al, sg, sc, ky, vl, pl, ca, wk, wt, wv) := ⟨_, _, _, _, _, _, _, _, _, _, _, _, _, _, _, _, _, _, _, rfl, rfl, hI, hX, hY⟩
  obtain ⟨⟨i1, i1'⟩, i2, i3, i4, i5, i6, i7, i8, i9, i10, i11, i12, i13⟩ := id hI
  rcases pc_ix v1 b (by omega) with ⟨h, h'⟩ | ⟨h1, h2, h3, h4⟩ | ⟨t, ht, rfl⟩
  · simp only [wpX_slotTs, wpX_isTxn, wpX_isSlot, wpX_cellOf, wpY_slotTs, wpY_validTxn, wpY_validSlot, h, true_implies, false_implies, not_true_eq_false, not_false_eq_true, and_true, true_and, and_self, forall_eq, pc_d1, pc_dm1, pc_dm2, pc_dm3, pc_nb0, pc_nb1]
    exact R
  · simp only [wpX_slotTs, wpX_isTxn, wpX_isSlot, wpX_cellOf, wpY_slotTs, wpY_validTxn, wpY_validSlot, h1, h4, true_implies, false_implies, not_true_eq_false, not_false_eq_true, and_true, true_and, and_self, forall_eq, pc_d1, pc_dm1, pc_dm2, pc_dm3, pc_nb0, pc_nb1]
    exact R
  · have ht8 : t < 8 := by omega
    have et : (nI t).toNatClampNeg = t := nI_clamp (by omega)
    have vt8 : vp_in (nI t) 8 := vp_in_nI ht8 (by omega)
    have f1 : ¬ nI t < 0 := nI_pos (by omega)
    have f2 : ¬ nI b ≤ nI t := nI_ge ht (by omega)
    have n4 := (i7 t).1
    have en := (i7 t).2
    rcases pc_ix v2 (pc_n sc t) (by omega) with ⟨g, g'⟩ | ⟨g1, g2, g3, g4⟩ | ⟨i, hi, rfl⟩
    · simp only [wpX_slotTs, wpX_isTxn, wpX_isSlot, wpX_cellOf, wpY_slotTs, wpY_validTxn, wpY_validSlot, f1, f2, et, vt8, g, true_implies, false_implies, not_true_eq_false, not_false_eq_true, and_true, true_and, and_self, forall_eq, pc_d1, pc_dm1, pc_dm2, pc_dm3, pc_nb0, pc_nb1]
      exact R
    · rw [← en] at g4
      simp only [wpX_slotTs, wpX_isTxn, wpX_isSlot, wpX_cellOf, wpY_slotTs, wpY_validTxn, wpY_validSlot, f1, f2, et, vt8, g1, g4, true_implies, false_implies, not_true_eq_false, not_false_eq_true, and_true, true_and, and_self, forall_eq, pc_d1, pc_dm1, pc_dm2, pc_dm3, pc_nb0, pc_nb1]
      exact R
    · have ec : (nI (t * 4 + i)).toNatClampNeg = t * 4 + i := nI_clamp (by omega)
      have vc32 : vp_in (nI (t * 4 + i)) 32 := vp_in_nI (by omega) (by omega)
      have s1 : ¬ nI i < 0 := nI_pos (by omega)
      have s2 : ¬ sc t ≤ nI i := by rw [en]; exact nI_ge hi (by omega)
      simp only [wpX_slotTs, wpX_isTxn, wpX_isSlot, wpX_cellOf, wpY_slotTs, wpY_validTxn, wpY_validSlot, f1, f2, et, vt8, s1, s2, pc_cell, ec, vc32, true_implies, false_implies, not_true_eq_false, not_false_eq_true, and_true, true_and, and_self, forall_eq, pc_d1, pc_dm1, pc_dm2, pc_dm3, pc_nb0, pc_nb1]
      exact R
theorem i_vc_isImplicitlyCommitted {k : Nat} {u : SX} {v : SY} (I : i_Rel k u v) (hk : k + 4 ≤ 2049) (v1 : Int32) : wpX_isImplicitlyCommitted (fun r => wpY_isImplicitlyCommitted (fun r' => r' = r ∧ i_Rel (k + 4) u v) v v1) u v1 := by
  obtain ⟨b, cp, w, ca, vc, vt, vv, tt, st, al, sg, sc, ky, vl, pl, wk, wt, wv, L, rfl, rfl, hI, hX, hY⟩ := I
  have R : i_Rel (k + 4) (nI cp, nI b, ca, vc, vt, vv, tt, st, al, sg, sc, ky, vl, pl) (nI cp, nI b, nI w, tt, st, al, sg, sc, ky, vl, pl, ca, wk, wt, wv) := ⟨_, _, _, _, _, _, _, _, _, _, _, _, _, _, _, _, _, _, _, rfl, rfl, hI, hX, hY⟩
  obtain ⟨⟨i1, i1'⟩, i2, i3, i4, i5, i6, i7, i8, i9, i10, i11, i12, i13⟩ := id hI
  rcases pc_ix v1 b (by omega) with ⟨h, h'⟩ | ⟨h1, h2, h3, h4⟩ | ⟨t, ht, rfl⟩
  · simp only [wpX_isImplicitlyCommitted, wpX_isTxn, wpY_isImplicitlyCommitted, wpY_validTxn, h, true_implies, false_implies, not_true_eq_false, not_false_eq_true, and_true, true_and, and_self, forall_eq, pc_d1, pc_dm1, pc_dm2, pc_dm3, pc_nb0, pc_nb1]
    exact R
  · simp only [wpX_isImplicitlyCommitted, wpX_isTxn, wpY_isImplicitlyCommitted, wpY_validTxn, h1, h4, true_implies, false_implies, not_true_eq_false, not_false_eq_true, and_true, true_and, and_self, forall_eq, pc_d1, pc_dm1, pc_dm2, pc_dm3, pc_nb0, pc_nb1]
    exact R
  · have ht8 : t < 8 := by omega
    have et : (nI t).toNatClampNeg = t := nI_clamp (by omega)
    have vt8 : vp_in (nI t) 8 := vp_in_nI ht8 (by omega)
    have f1 : ¬ nI t < 0 := nI_pos (by omega)
    have f2 : ¬ nI b ≤ nI t := nI_ge ht (by omega)
    have n4 := (i7 t).1
    have en := (i7 t).2
    by_cases hg : sg t = 0
    · simp only [wpX_isImplicitlyCommitted, wpX_isTxn, wpY_isImplicitlyCommitted, wpY_validTxn, f1, f2, et, vt8, hg, true_implies, false_implies, not_true_eq_false, not_false_eq_true, and_true, true_and, and_self, forall_eq, pc_d1, pc_dm1, pc_dm2, pc_dm3, pc_nb0, pc_nb1]
      exact R
    · simp only [wpX_isImplicitlyCommitted, wpX_isTxn, wpY_isImplicitlyCommitted, wpY_validTxn, f1, f2, et, vt8, hg, true_implies, false_implies, not_true_eq_false, not_false_eq_true, and_true, true_and, and_self, forall_eq, pc_d1, pc_dm1, pc_dm2, pc_dm3, pc_nb0, pc_nb1]
      refine xh_allAt ht8 en n4 (fun hT => ?_) (fun hF => ?_)
      · simp only [true_implies, false_implies, not_true_eq_false, not_false_eq_true, and_true, true_and, and_self, forall_eq, pc_d1, pc_dm1, pc_dm2, pc_dm3, pc_nb0, pc_nb1]
        refine yh_allAt ht8 en n4 (fun _ => ⟨rfl, rfl, R⟩) (fun hF => ?_)
        obtain ⟨i, hi, z⟩ := hF
        exact absurd (hT i hi) z
      · simp only [true_implies, false_implies, not_true_eq_false, not_false_eq_true, and_true, true_and, and_self, forall_eq, pc_d1, pc_dm1, pc_dm2, pc_dm3, pc_nb0, pc_nb1]
        refine yh_allAt ht8 en n4 (fun hT => ?_) (fun _ => ⟨rfl, rfl, R⟩)
        obtain ⟨i, hi, z⟩ := hF
        exact absurd (hT i hi) z
theorem i_vc_tsCache {k : Nat} {u : SX} {v : SY} (I : i_Rel k u v) (hk : k + 4 ≤ 2049) (v1 : Int32) : wpX_tsCache (fun r => wpY_tsCache (fun r' => r' = r ∧ i_Rel (k + 4) u v) v v1) u v1 := by
  obtain ⟨b, cp, w, ca, vc, vt, vv, tt, st, al, sg, sc, ky, vl, pl, wk, wt, wv, L, rfl, rfl, hI, hX, hY⟩ := I
  have R : i_Rel (k + 4) (nI cp, nI b, ca, vc, vt, vv, tt, st, al, sg, sc, ky, vl, pl) (nI cp, nI b, nI w, tt, st, al, sg, sc, ky, vl, pl, ca, wk, wt, wv) := ⟨_, _, _, _, _, _, _, _, _, _, _, _, _, _, _, _, _, _, _, rfl, rfl, hI, hX, hY⟩
  rcases pc_ix v1 16 (by omega) with ⟨h, h'⟩ | ⟨h1, h2, h3, h4⟩ | ⟨q, hq, rfl⟩
  · simp only [wpX_tsCache, wpX_isKey, wpY_tsCache, h, true_implies, false_implies, not_true_eq_false, not_false_eq_true, and_true, true_and, and_self, forall_eq, pc_d1, pc_dm1, pc_dm2, pc_dm3, pc_nb0, pc_nb1]
    exact R
  · have g3 : ¬ v1 < 16 := h3
    have g4 : 16 ≤ v1 := h4
    simp only [wpX_tsCache, wpX_isKey, wpY_tsCache, h1, g3, g4, true_implies, false_implies, not_true_eq_false, not_false_eq_true, and_true, true_and, and_self, forall_eq, pc_d1, pc_dm1, pc_dm2, pc_dm3, pc_nb0, pc_nb1]
    exact R
  · have eq : (nI q).toNatClampNeg = q := nI_clamp (by omega)
    have vq : vp_in (nI q) 16 := vp_in_nI hq (by omega)
    have q1 : ¬ nI q < 0 := nI_pos (by omega)
    have q2 : ¬ 16 ≤ nI q := nI_ge (b := 16) hq (by decide)
    have q3 : nI q < 16 := nI_lt (b := 16) hq (by decide)
    simp only [wpX_tsCache, wpX_isKey, wpY_tsCache, q1, q2, q3, eq, vq, true_implies, false_implies, not_true_eq_false, not_false_eq_true, and_true, true_and, and_self, forall_eq, pc_d1, pc_dm1, pc_dm2, pc_dm3, pc_nb0, pc_nb1]
    exact R
end
section
/-! ## the calls with loops -/
theorem i_vc_addWrite {k : Nat} {u : SX} {v : SY} (I : i_Rel k u v) (hk : k + 4 ≤ 2049) (v1 : Int32) (v2 : Int32) (v3 : Int32) : wpX_addWrite (fun r u' => wpY_addWrite (fun r' v' => r' = r ∧ i_Rel (k + 4) u' v') v v1 v2 v3) u v1 v2 v3 := by
  obtain ⟨b, cp, w, ca, vc, vt, vv, tt, st, al, sg, sc, ky, vl, pl, wk, wt, wv, L, rfl, rfl, hI, hX, hY⟩ := I
  have R : i_Rel (k + 4) (nI cp, nI b, ca, vc, vt, vv, tt, st, al, sg, sc, ky, vl, pl) (nI cp, nI b, nI w, tt, st, al, sg, sc, ky, vl, pl, ca, wk, wt, wv) := ⟨_, _, _, _, _, _, _, _, _, _, _, _, _, _, _, _, _, _, _, rfl, rfl, hI, hX, hY⟩
  obtain ⟨⟨i1, i1'⟩, i2, i3, i4, i5, i6, i7, i8, i9, i10, i11, i12, i13⟩ := id hI
  rcases pc_ix v1 b (by omega) with ⟨h, h'⟩ | ⟨h1, h2, h3, h4⟩ | ⟨t, ht, rfl⟩
  · simp only [wpX_addWrite, wpX_coordinatorRefusal, wpX_isTxn, wpX_isKey, wpX_cellOf, wpY_addWrite, wpY_validTxn, h, true_implies, false_implies, not_true_eq_false, not_false_eq_true, and_true, true_and, and_self, forall_eq, pc_d1, pc_dm1, pc_dm2, pc_dm3, pc_nb0, pc_nb1]
    exact R
  · simp only [wpX_addWrite, wpX_coordinatorRefusal, wpX_isTxn, wpX_isKey, wpX_cellOf, wpY_addWrite, wpY_validTxn, h1, h4, true_implies, false_implies, not_true_eq_false, not_false_eq_true, and_true, true_and, and_self, forall_eq, pc_d1, pc_dm1, pc_dm2, pc_dm3, pc_nb0, pc_nb1]
    exact R
  · have ht8 : t < 8 := by omega
    have et : (nI t).toNatClampNeg = t := nI_clamp (by omega)
    have vt8 : vp_in (nI t) 8 := vp_in_nI ht8 (by omega)
    have f1 : ¬ nI t < 0 := nI_pos (by omega)
    have f2 : ¬ nI b ≤ nI t := nI_ge ht (by omega)
    have n4 := (i7 t).1
    have en := (i7 t).2
    by_cases hs : st t = 1
    · by_cases ha : al t = 0
      · simp only [wpX_addWrite, wpX_coordinatorRefusal, wpX_isTxn, wpX_isKey, wpX_cellOf, wpY_addWrite, wpY_validTxn, f1, f2, et, vt8, hs, ha, true_implies, false_implies, not_true_eq_false, not_false_eq_true, and_true, true_and, and_self, forall_eq, pc_d1, pc_dm1, pc_dm2, pc_dm3, pc_nb0, pc_nb1]
        exact R
      · rcases pc_ix v2 16 (by omega) with ⟨g, g'⟩ | ⟨g1, g2, g3, g4⟩ | ⟨q, hq, rfl⟩
        · simp only [wpX_addWrite, wpX_coordinatorRefusal, wpX_isTxn, wpX_isKey, wpX_cellOf, wpY_addWrite, wpY_validTxn, f1, f2, et, vt8, hs, ha, g, true_implies, false_implies, not_true_eq_false, not_false_eq_true, and_true, true_and, and_self, forall_eq, pc_d1, pc_dm1, pc_dm2, pc_dm3, pc_nb0, pc_nb1]
          exact R
        · have g5 : 16 ≤ v2 := g4
          simp only [wpX_addWrite, wpX_coordinatorRefusal, wpX_isTxn, wpX_isKey, wpX_cellOf, wpY_addWrite, wpY_validTxn, f1, f2, et, vt8, hs, ha, g1, g5, true_implies, false_implies, not_true_eq_false, not_false_eq_true, and_true, true_and, and_self, forall_eq, pc_d1, pc_dm1, pc_dm2, pc_dm3, pc_nb0, pc_nb1]
          exact R
        · have q1 : ¬ nI q < 0 := nI_pos (by omega)
          have q2 : ¬ 16 ≤ nI q := nI_ge (b := 16) hq (by decide)
          by_cases b1 : v3 < 0
          · simp only [wpX_addWrite, wpX_coordinatorRefusal, wpX_isTxn, wpX_isKey, wpX_cellOf, wpY_addWrite, wpY_validTxn, f1, f2, et, vt8, hs, ha, q1, q2, b1, true_implies, false_implies, not_true_eq_false, not_false_eq_true, and_true, true_and, and_self, forall_eq, pc_d1, pc_dm1, pc_dm2, pc_dm3, pc_nb0, pc_nb1]
            exact R
          · by_cases b2 : v3 ≤ 32767
            · simp only [wpX_addWrite, wpX_coordinatorRefusal, wpX_isTxn, wpX_isKey, wpX_cellOf, wpY_addWrite, wpY_validTxn, f1, f2, et, vt8, hs, ha, q1, q2, b1, b2, true_implies, false_implies, not_true_eq_false, not_false_eq_true, and_true, true_and, and_self, forall_eq, pc_d1, pc_dm1, pc_dm2, pc_dm3, pc_nb0, pc_nb1]
              refine xh_writesKey ht8 en n4 (fun hT => ?_) (fun hF => ?_)
              · simp only [true_implies, false_implies, not_true_eq_false, not_false_eq_true, and_true, true_and, and_self, forall_eq, pc_d1, pc_dm1, pc_dm2, pc_dm3, pc_nb0, pc_nb1]
                refine yh_add ht8 en n4 (fun _ => ⟨rfl, R⟩) (fun hF => ?_)
                obtain ⟨i, hi, z⟩ := hT
                exact absurd z (hF i hi)
              · by_cases n5 : pc_n sc t < 4
                · have c1 : sc t < 4 := by rw [en]; exact nI_lt (b := 4) n5 (by decide)
                  generalize hg : pc_n sc t = n at *
                  have ec : (nI (t * 4 + n)).toNatClampNeg = t * 4 + n := nI_clamp (by omega)
                  have vc32 : vp_in (nI (t * 4 + n)) 32 := vp_in_nI (by omega) (by omega)
                  simp only [c1, vt8, true_implies, false_implies, not_true_eq_false, not_false_eq_true, and_true, true_and, and_self, forall_eq, pc_d1, pc_dm1, pc_dm2, pc_dm3, pc_nb0, pc_nb1]
                  simp only [en, pc_cell, ec, vc32, true_implies, false_implies, not_true_eq_false, not_false_eq_true, and_true, true_and, and_self, forall_eq, pc_d1, pc_dm1, pc_dm2, pc_dm3, pc_nb0, pc_nb1]
                  refine yh_add ht8 en n4 (fun hT => ?_) (fun _ => ?_)
                  · obtain ⟨i, hi, z⟩ := hT
                    exact absurd z (hF i hi)
                  · have c2 : nI n < 4 := nI_lt (b := 4) n5 (by decide)
                    simp only [wY_addWrite_103, et, vt8, en, c2, pc_cell, ec, vc32, nI_1, true_implies, false_implies, not_true_eq_false, not_false_eq_true, and_true, true_and, and_self, forall_eq, pc_d1, pc_dm1, pc_dm2, pc_dm3, pc_nb0, pc_nb1]
                    rw [pc_same (f := pl) (i11 t n (by omega) n5)]
                    exact ⟨_, _, _, _, _, _, _, _, _, _, _, _, _, _, _, _, _, _, _, rfl, rfl, pc_add hI ht en n5 hq hF, hX, hY⟩
                · have c1 : ¬ sc t < 4 := by rw [en]; exact nI_nlt (b := 4) (by omega) (by omega)
                  simp only [vt8, c1, true_implies, false_implies, not_true_eq_false, not_false_eq_true, and_true, true_and, and_self, forall_eq, pc_d1, pc_dm1, pc_dm2, pc_dm3, pc_nb0, pc_nb1]
                  refine yh_add ht8 en n4 (fun hT => ?_) (fun _ => ?_)
                  · obtain ⟨i, hi, z⟩ := hT
                    exact absurd z (hF i hi)
                  · simp only [wY_addWrite_103, et, vt8, c1, true_implies, false_implies, not_true_eq_false, not_false_eq_true, and_true, true_and, and_self, forall_eq, pc_d1, pc_dm1, pc_dm2, pc_dm3, pc_nb0, pc_nb1]
                    exact R
            · simp only [wpX_addWrite, wpX_coordinatorRefusal, wpX_isTxn, wpX_isKey, wpX_cellOf, wpY_addWrite, wpY_validTxn, f1, f2, et, vt8, hs, ha, q1, q2, b1, b2, true_implies, false_implies, not_true_eq_false, not_false_eq_true, and_true, true_and, and_self, forall_eq, pc_d1, pc_dm1, pc_dm2, pc_dm3, pc_nb0, pc_nb1]
              exact R
    · simp only [wpX_addWrite, wpX_coordinatorRefusal, wpX_isTxn, wpX_isKey, wpX_cellOf, wpY_addWrite, wpY_validTxn, f1, f2, et, vt8, hs, true_implies, false_implies, not_true_eq_false, not_false_eq_true, and_true, true_and, and_self, forall_eq, pc_d1, pc_dm1, pc_dm2, pc_dm3, pc_nb0, pc_nb1]
      exact R
theorem i_vc_probe {k : Nat} {u : SX} {v : SY} (I : i_Rel k u v) (hk : k + 4 ≤ 2049) (v1 : Int32) (v2 : Int32) : wpX_probe (fun r u' => wpY_probe (fun r' v' => r' = r ∧ i_Rel (k + 4) u' v') v v1 v2) u v1 v2 := by
  obtain ⟨b, cp, w, ca, vc, vt, vv, tt, st, al, sg, sc, ky, vl, pl, wk, wt, wv, L, rfl, rfl, hI, hX, hY⟩ := I
  have R : i_Rel (k + 4) (nI cp, nI b, ca, vc, vt, vv, tt, st, al, sg, sc, ky, vl, pl) (nI cp, nI b, nI w, tt, st, al, sg, sc, ky, vl, pl, ca, wk, wt, wv) := ⟨_, _, _, _, _, _, _, _, _, _, _, _, _, _, _, _, _, _, _, rfl, rfl, hI, hX, hY⟩
  obtain ⟨⟨i1, i1'⟩, i2, i3, i4, i5, i6, i7, i8, i9, i10, i11, i12, i13⟩ := id hI
  rcases pc_ix v1 b (by omega) with ⟨h, h'⟩ | ⟨h1, h2, h3, h4⟩ | ⟨t, ht, rfl⟩
  · simp only [wpX_probe, wpX_isTxn, wpX_isSlot, wpX_isDelivered, wpX_deliveredState, wpX_cellOf, wpY_probe, wpY_validTxn, wpY_validSlot, h, true_implies, false_implies, not_true_eq_false, not_false_eq_true, and_true, true_and, and_self, forall_eq, pc_d1, pc_dm1, pc_dm2, pc_dm3, pc_nb0, pc_nb1]
    exact R
  · simp only [wpX_probe, wpX_isTxn, wpX_isSlot, wpX_isDelivered, wpX_deliveredState, wpX_cellOf, wpY_probe, wpY_validTxn, wpY_validSlot, h1, h4, true_implies, false_implies, not_true_eq_false, not_false_eq_true, and_true, true_and, and_self, forall_eq, pc_d1, pc_dm1, pc_dm2, pc_dm3, pc_nb0, pc_nb1]
    exact R
  · have ht8 : t < 8 := by omega
    have et : (nI t).toNatClampNeg = t := nI_clamp (by omega)
    have vt8 : vp_in (nI t) 8 := vp_in_nI ht8 (by omega)
    have f1 : ¬ nI t < 0 := nI_pos (by omega)
    have f2 : ¬ nI b ≤ nI t := nI_ge ht (by omega)
    have n4 := (i7 t).1
    have en := (i7 t).2
    by_cases hs : st t = 2
    · rcases pc_ix v2 (pc_n sc t) (by omega) with ⟨g, g'⟩ | ⟨g1, g2, g3, g4⟩ | ⟨i, hi, rfl⟩
      · simp only [wpX_probe, wpX_isTxn, wpX_isSlot, wpX_isDelivered, wpX_deliveredState, wpX_cellOf, wpY_probe, wpY_validTxn, wpY_validSlot, f1, f2, et, vt8, hs, g, true_implies, false_implies, not_true_eq_false, not_false_eq_true, and_true, true_and, and_self, forall_eq, pc_d1, pc_dm1, pc_dm2, pc_dm3, pc_nb0, pc_nb1]
        exact R
      · rw [← en] at g4
        simp only [wpX_probe, wpX_isTxn, wpX_isSlot, wpX_isDelivered, wpX_deliveredState, wpX_cellOf, wpY_probe, wpY_validTxn, wpY_validSlot, f1, f2, et, vt8, hs, g1, g4, true_implies, false_implies, not_true_eq_false, not_false_eq_true, and_true, true_and, and_self, forall_eq, pc_d1, pc_dm1, pc_dm2, pc_dm3, pc_nb0, pc_nb1]
        exact R
      · have ec : (nI (t * 4 + i)).toNatClampNeg = t * 4 + i := nI_clamp (by omega)
        have vc32 : vp_in (nI (t * 4 + i)) 32 := vp_in_nI (by omega) (by omega)
        have s1 : ¬ nI i < 0 := nI_pos (by omega)
        have s2 : ¬ sc t ≤ nI i := by rw [en]; exact nI_ge hi (by omega)
        by_cases hz : pl (t * 4 + i) = 0
        · simp only [wpX_probe, wpX_isTxn, wpX_isSlot, wpX_isDelivered, wpX_deliveredState, wpX_cellOf, wpY_probe, wpY_validTxn, wpY_validSlot, f1, f2, et, vt8, hs, s1, s2, pc_cell, ec, vc32, hz, true_implies, false_implies, not_true_eq_false, not_false_eq_true, and_true, true_and, and_self, forall_eq, pc_d1, pc_dm1, pc_dm2, pc_dm3, pc_nb0, pc_nb1]
          refine xh_prevent ht8 (by omega) i9 ?_
          refine yh_prevent ht8 (by omega) i9 ?_
          exact ⟨_, _, _, _, _, _, _, _, _, _, _, _, _, _, _, _, _, _, _, rfl, rfl, pc_raI hI (i3 t), hX, hY⟩
        · by_cases ha : pl (t * 4 + i) = tt t
          · simp only [wpX_probe, wpX_isTxn, wpX_isSlot, wpX_isDelivered, wpX_deliveredState, wpX_cellOf, wpY_probe, wpY_validTxn, wpY_validSlot, f1, f2, et, vt8, hs, s1, s2, pc_cell, ec, vc32, hz, ha, true_implies, false_implies, not_true_eq_false, not_false_eq_true, and_true, true_and, and_self, forall_eq, pc_d1, pc_dm1, pc_dm2, pc_dm3, pc_nb0, pc_nb1]
            rw [ha] at hz
            simp only [hz, true_implies, false_implies, not_true_eq_false, not_false_eq_true, and_true, true_and, and_self, forall_eq, pc_d1, pc_dm1, pc_dm2, pc_dm3, pc_nb0, pc_nb1]
            exact R
          · simp only [wpX_probe, wpX_isTxn, wpX_isSlot, wpX_isDelivered, wpX_deliveredState, wpX_cellOf, wpY_probe, wpY_validTxn, wpY_validSlot, f1, f2, et, vt8, hs, s1, s2, pc_cell, ec, vc32, hz, ha, true_implies, false_implies, not_true_eq_false, not_false_eq_true, and_true, true_and, and_self, forall_eq, pc_d1, pc_dm1, pc_dm2, pc_dm3, pc_nb0, pc_nb1]
            exact R
    · simp only [wpX_probe, wpX_isTxn, wpX_isSlot, wpX_isDelivered, wpX_deliveredState, wpX_cellOf, wpY_probe, wpY_validTxn, wpY_validSlot, f1, f2, et, vt8, hs, true_implies, false_implies, not_true_eq_false, not_false_eq_true, and_true, true_and, and_self, forall_eq, pc_d1, pc_dm1, pc_dm2, pc_dm3, pc_nb0, pc_nb1]
      exact R
theorem i_vc_slotState {k : Nat} {u : SX} {v : SY} (I : i_Rel k u v) (hk : k + 4 ≤ 2049) (v1 : Int32) (v2 : Int32) : wpX_slotState (fun r => wpY_slotState (fun r' => r' = r ∧ i_Rel (k + 4) u v) v v1 v2) u v1 v2 := by
  obtain ⟨b, cp, w, ca, vc, vt, vv, tt, st, al, sg, sc, ky, vl, pl, wk, wt, wv, L, rfl, rfl, hI, hX, hY⟩ := I
  have R : i_Rel (k + 4) (nI cp, nI b, ca, vc, vt, vv, tt, st, al, sg, sc, ky, vl, pl) (nI cp, nI b, nI w, tt, st, al, sg, sc, ky, vl, pl, ca, wk, wt, wv) := ⟨_, _, _, _, _, _, _, _, _, _, _, _, _, _, _, _, _, _, _, rfl, rfl, hI, hX, hY⟩
  obtain ⟨⟨i1, i1'⟩, i2, i3, i4, i5, i6, i7, i8, i9, i10, i11, i12, i13⟩ := id hI
  have w32 : w ≤ 32 := by have := pc_cn_le st 8; omega
  rcases pc_ix v1 b (by omega) with ⟨h, h'⟩ | ⟨h1, h2, h3, h4⟩ | ⟨t, ht, rfl⟩
  · simp only [wpX_slotState, wpX_isTxn, wpX_isSlot, wpX_isDelivered, wpX_deliveredState, wpX_cellOf, wpY_slotState, wpY_validTxn, wpY_validSlot, h, true_implies, false_implies, not_true_eq_false, not_false_eq_true, and_true, true_and, and_self, forall_eq, pc_d1, pc_dm1, pc_dm2, pc_dm3, pc_nb0, pc_nb1]
    exact R
  · simp only [wpX_slotState, wpX_isTxn, wpX_isSlot, wpX_isDelivered, wpX_deliveredState, wpX_cellOf, wpY_slotState, wpY_validTxn, wpY_validSlot, h1, h4, true_implies, false_implies, not_true_eq_false, not_false_eq_true, and_true, true_and, and_self, forall_eq, pc_d1, pc_dm1, pc_dm2, pc_dm3, pc_nb0, pc_nb1]
    exact R
  · have ht8 : t < 8 := by omega
    have et : (nI t).toNatClampNeg = t := nI_clamp (by omega)
    have vt8 : vp_in (nI t) 8 := vp_in_nI ht8 (by omega)
    have f1 : ¬ nI t < 0 := nI_pos (by omega)
    have f2 : ¬ nI b ≤ nI t := nI_ge ht (by omega)
    have n4 := (i7 t).1
    have en := (i7 t).2
    rcases pc_ix v2 (pc_n sc t) (by omega) with ⟨g, g'⟩ | ⟨g1, g2, g3, g4⟩ | ⟨i, hi, rfl⟩
    · simp only [wpX_slotState, wpX_isTxn, wpX_isSlot, wpX_isDelivered, wpX_deliveredState, wpX_cellOf, wpY_slotState, wpY_validTxn, wpY_validSlot, f1, f2, et, vt8, g, true_implies, false_implies, not_true_eq_false, not_false_eq_true, and_true, true_and, and_self, forall_eq, pc_d1, pc_dm1, pc_dm2, pc_dm3, pc_nb0, pc_nb1]
      exact R
    · rw [← en] at g4
      simp only [wpX_slotState, wpX_isTxn, wpX_isSlot, wpX_isDelivered, wpX_deliveredState, wpX_cellOf, wpY_slotState, wpY_validTxn, wpY_validSlot, f1, f2, et, vt8, g1, g4, true_implies, false_implies, not_true_eq_false, not_false_eq_true, and_true, true_and, and_self, forall_eq, pc_d1, pc_dm1, pc_dm2, pc_dm3, pc_nb0, pc_nb1]
      exact R
    · have ec : (nI (t * 4 + i)).toNatClampNeg = t * 4 + i := nI_clamp (by omega)
      have vc32 : vp_in (nI (t * 4 + i)) 32 := vp_in_nI (by omega) (by omega)
      have s1 : ¬ nI i < 0 := nI_pos (by omega)
      have s2 : ¬ sc t ≤ nI i := by rw [en]; exact nI_ge hi (by omega)
      by_cases hz : pl (t * 4 + i) = 0
      · obtain ⟨q, hq, ek⟩ := i9 (t * 4 + i)
        simp only [wpX_slotState, wpX_isTxn, wpX_isSlot, wpX_isDelivered, wpX_deliveredState, wpX_cellOf, wpY_slotState, wpY_validTxn, wpY_validSlot, f1, f2, et, vt8, s1, s2, pc_cell, ec, vc32, hz, ek, true_implies, false_implies, not_true_eq_false, not_false_eq_true, and_true, true_and, and_self, forall_eq, pc_d1, pc_dm1, pc_dm2, pc_dm3, pc_nb0, pc_nb1]
        refine xh_floorOf hq hX ?_
        refine br_c (fun z => yh_floorOf hq w32 (i2 q) hY (br_t z R)) (fun z => yh_floorOf hq w32 (i2 q) hY (br_f z R))
      · by_cases ha : pl (t * 4 + i) = tt t
        · rw [ha] at hz
          simp only [wpX_slotState, wpX_isTxn, wpX_isSlot, wpX_isDelivered, wpX_deliveredState, wpX_cellOf, wpY_slotState, wpY_validTxn, wpY_validSlot, f1, f2, et, vt8, s1, s2, pc_cell, ec, vc32, ha, hz, true_implies, false_implies, not_true_eq_false, not_false_eq_true, and_true, true_and, and_self, forall_eq, pc_d1, pc_dm1, pc_dm2, pc_dm3, pc_nb0, pc_nb1]
          exact R
        · simp only [wpX_slotState, wpX_isTxn, wpX_isSlot, wpX_isDelivered, wpX_deliveredState, wpX_cellOf, wpY_slotState, wpY_validTxn, wpY_validSlot, f1, f2, et, vt8, s1, s2, pc_cell, ec, vc32, hz, ha, true_implies, false_implies, not_true_eq_false, not_false_eq_true, and_true, true_and, and_self, forall_eq, pc_d1, pc_dm1, pc_dm2, pc_dm3, pc_nb0, pc_nb1]
          exact R
end
section
/-! ## deliver, finalize, recover, read -/
theorem i_vc_deliver {k : Nat} {u : SX} {v : SY} (I : i_Rel k u v) (hk : k + 4 ≤ 2049) (v1 : Int32) (v2 : Int32) : wpX_deliver (fun r u' => wpY_deliver (fun r' v' => r' = r ∧ i_Rel (k + 4) u' v') v v1 v2) u v1 v2 := by
  obtain ⟨b, cp, w, ca, vc, vt, vv, tt, st, al, sg, sc, ky, vl, pl, wk, wt, wv, L, rfl, rfl, hI, hX, hY⟩ := I
  have R : i_Rel (k + 4) (nI cp, nI b, ca, vc, vt, vv, tt, st, al, sg, sc, ky, vl, pl) (nI cp, nI b, nI w, tt, st, al, sg, sc, ky, vl, pl, ca, wk, wt, wv) := ⟨_, _, _, _, _, _, _, _, _, _, _, _, _, _, _, _, _, _, _, rfl, rfl, hI, hX, hY⟩
  obtain ⟨⟨i1, i1'⟩, i2, i3, i4, i5, i6, i7, i8, i9, i10, i11, i12, i13⟩ := id hI
  have w32 : w ≤ 32 := by have := pc_cn_le st 8; omega
  rcases pc_ix v1 b (by omega) with ⟨h, h'⟩ | ⟨h1, h2, h3, h4⟩ | ⟨t, ht, rfl⟩
  · simp only [wpX_deliver, wpX_isTxn, wpX_isSlot, wpX_isDelivered, wpX_isDecided, wpX_cellOf, wpY_deliver, wpY_validTxn, wpY_validSlot, wpY_undecided, h, true_implies, false_implies, not_true_eq_false, not_false_eq_true, and_true, true_and, and_self, forall_eq, pc_d1, pc_dm1, pc_dm2, pc_dm3, pc_nb0, pc_nb1]
    exact R
  · simp only [wpX_deliver, wpX_isTxn, wpX_isSlot, wpX_isDelivered, wpX_isDecided, wpX_cellOf, wpY_deliver, wpY_validTxn, wpY_validSlot, wpY_undecided, h1, h4, true_implies, false_implies, not_true_eq_false, not_false_eq_true, and_true, true_and, and_self, forall_eq, pc_d1, pc_dm1, pc_dm2, pc_dm3, pc_nb0, pc_nb1]
    exact R
  · have ht8 : t < 8 := by omega
    have et : (nI t).toNatClampNeg = t := nI_clamp (by omega)
    have vt8 : vp_in (nI t) 8 := vp_in_nI ht8 (by omega)
    have f1 : ¬ nI t < 0 := nI_pos (by omega)
    have f2 : ¬ nI b ≤ nI t := nI_ge ht (by omega)
    have n4 := (i7 t).1
    have en := (i7 t).2
    rcases pc_ix v2 (pc_n sc t) (by omega) with ⟨g, g'⟩ | ⟨g1, g2, g3, g4⟩ | ⟨i, hi, rfl⟩
    · simp only [wpX_deliver, wpX_isTxn, wpX_isSlot, wpX_isDelivered, wpX_isDecided, wpX_cellOf, wpY_deliver, wpY_validTxn, wpY_validSlot, wpY_undecided, f1, f2, et, vt8, g, true_implies, false_implies, not_true_eq_false, not_false_eq_true, and_true, true_and, and_self, forall_eq, pc_d1, pc_dm1, pc_dm2, pc_dm3, pc_nb0, pc_nb1]
      exact R
    · rw [← en] at g4
      simp only [wpX_deliver, wpX_isTxn, wpX_isSlot, wpX_isDelivered, wpX_isDecided, wpX_cellOf, wpY_deliver, wpY_validTxn, wpY_validSlot, wpY_undecided, f1, f2, et, vt8, g1, g4, true_implies, false_implies, not_true_eq_false, not_false_eq_true, and_true, true_and, and_self, forall_eq, pc_d1, pc_dm1, pc_dm2, pc_dm3, pc_nb0, pc_nb1]
      exact R
    · have ec : (nI (t * 4 + i)).toNatClampNeg = t * 4 + i := nI_clamp (by omega)
      have vc32 : vp_in (nI (t * 4 + i)) 32 := vp_in_nI (by omega) (by omega)
      have s1 : ¬ nI i < 0 := nI_pos (by omega)
      have s2 : ¬ sc t ≤ nI i := by rw [en]; exact nI_ge hi (by omega)
      by_cases hz : pl (t * 4 + i) = 0
      · obtain ⟨q, hq, ek⟩ := i9 (t * 4 + i)
        have J : ∀ x : Int32, i_Rel (k + 4) (nI cp, nI b, ca, vc, vt, vv, tt, st, al, sg, sc, ky, vl, upd pl (t * 4 + i) x) (nI cp, nI b, nI w, tt, st, al, sg, sc, ky, vl, upd pl (t * 4 + i) x, ca, wk, wt, wv) := fun x => ⟨_, _, _, _, _, _, _, _, _, _, _, _, _, _, _, _, _, _, _, rfl, rfl, pc_deliver hI en n4 hi, hX, hY⟩
        have own : ∀ s j, pc_hit st sc ky pl (nI q) s j → s ≠ t := by
          intro s j z e
          subst e
          obtain ⟨_, z2, z3, z4⟩ := z
          rcases Nat.lt_trichotomy i j with g | g | g
          · exact i10 s i j g z2 (ek.trans z4.symm)
          · subst g
            exact z3 hz
          · exact i10 s j i g hi (z4.trans ek.symm)
        have dec : (st t = 1 ∨ st t = 2) ∨ (st t = 3 ∨ st t = 4) := by
          rcases i4 t ht with y | y | y | y
          · exact Or.inl (Or.inl y)
          · exact Or.inl (Or.inr y)
          · exact Or.inr (Or.inl y)
          · exact Or.inr (Or.inr y)
        rcases dec with hu | hu
        · have e3 : ¬ st t = 3 := by rcases hu with y | y <;> rw [y] <;> decide
          have e4 : ¬ st t = 4 := by rcases hu with y | y <;> rw [y] <;> decide
          have fin : ∀ (ψ : Int32 → SY → Prop), (∀ (hno : ∀ s, s < b → ∀ j, ¬ pc_hit st sc ky pl (nI q) s j), wY_deliver_83 ψ (nI t) (nI (t * 4 + i)) (nI q) (nI cp) (nI b) (nI w) tt st al sg sc ky vl pl ca wk wt wv) → (∀ s j, s < b → pc_hit st sc ky pl (nI q) s j → ψ (-7) (nI cp, nI b, nI w, tt, st, al, sg, sc, ky, vl, pl, ca, wk, wt, wv)) → wpY_deliver ψ (nI cp, nI b, nI w, tt, st, al, sg, sc, ky, vl, pl, ca, wk, wt, wv) (nI t) (nI i) := by
            intro ψ p1 p2
            have core : wpY_intentOn (fun r_57 => (((r_57 < 0 → (wY_deliver_83 ψ (nI t) (nI (t * 4 + i)) (nI q) (nI cp) (nI b) (nI w) tt st al sg sc ky vl pl ca wk wt wv)) ∧ (¬ r_57 < 0 → (¬ (4 : Int32) = 0 ∧ ((((r_57 / 4) = (nI t) → (wY_deliver_83 ψ (nI t) (nI (t * 4 + i)) (nI q) (nI cp) (nI b) (nI w) tt st al sg sc ky vl pl ca wk wt wv)) ∧ (¬ (r_57 / 4) = (nI t) → (ψ (-7) (nI cp, nI b, nI w, tt, st, al, sg, sc, ky, vl, pl, ca, wk, wt, wv)))))))))) (nI cp, nI b, nI w, tt, st, al, sg, sc, ky, vl, pl, ca, wk, wt, wv) (nI q) := by
              refine yh_intentOn (by omega) i7 (fun hno => br_t (by decide) (p1 hno)) (fun s j hs hj hh _ => br_f (nI_pos (by omega)) ⟨by decide, ?_⟩)
              rw [pc_div4 (by omega) hj]
              exact br_f (fun z => own s j hh ((nI_eq (by omega) (by omega)).mp z)) (p2 s j hs hh)
            rcases hu with y | y
            · have y2 : ¬ st t = 2 := by rw [y]; decide
              simp only [wpX_deliver, wpX_isTxn, wpX_isSlot, wpX_isDelivered, wpX_isDecided, wpX_cellOf, wpY_deliver, wpY_validTxn, wpY_validSlot, wpY_undecided, f1, f2, et, vt8, s1, s2, pc_cell, ec, vc32, hz, ek, y, true_implies, false_implies, not_true_eq_false, not_false_eq_true, and_true, true_and, and_self, forall_eq, pc_d1, pc_dm1, pc_dm2, pc_dm3, pc_nb0, pc_nb1]
              exact core
            · have y2 : ¬ st t = 1 := by rw [y]; decide
              simp only [wpY_deliver, wpY_validTxn, wpY_validSlot, wpY_undecided, f1, f2, et, vt8, s1, s2, pc_cell, ec, vc32, hz, ek, y2, true_implies, false_implies, not_true_eq_false, not_false_eq_true, and_true, true_and, and_self, forall_eq, pc_d1, pc_dm1, pc_dm2, pc_dm3, pc_nb0, pc_nb1]
              simp only [y, true_implies, false_implies, not_true_eq_false, not_false_eq_true, and_true, true_and, and_self, forall_eq, pc_d1, pc_dm1, pc_dm2, pc_dm3, pc_nb0, pc_nb1]
              exact core
          simp only [wpX_deliver, wpX_isTxn, wpX_isSlot, wpX_isDelivered, wpX_isDecided, wpX_cellOf, f1, f2, et, vt8, s1, s2, pc_cell, ec, vc32, hz, ek, e3, e4, true_implies, false_implies, not_true_eq_false, not_false_eq_true, and_true, true_and, and_self, forall_eq, pc_d1, pc_dm1, pc_dm2, pc_dm3, pc_nb0, pc_nb1]
          refine xh_intentTs (by omega) i4 i7 i10 (fun hno => ?_) (fun s j hs hh hl hnz => ?_)
          · refine br_t (by trivial) (xh_floorOf hq hX ?_)
            generalize hF : (L q).foldl pc_g (ca q) = F
            have yfl : ∀ (ψ : Int32 → SY → Prop), (tt t ≤ F → wY_deliver_127 ψ (nI t) (nI (t * 4 + i)) (nI cp) (nI b) (nI w) tt st al sg sc ky vl (upd pl (t * 4 + i) (F + 1)) ca wk wt wv) → (¬ tt t ≤ F → wY_deliver_127 ψ (nI t) (nI (t * 4 + i)) (nI cp) (nI b) (nI w) tt st al sg sc ky vl (upd pl (t * 4 + i) (tt t)) ca wk wt wv) → wY_deliver_83 ψ (nI t) (nI (t * 4 + i)) (nI q) (nI cp) (nI b) (nI w) tt st al sg sc ky vl pl ca wk wt wv := by
              intro ψ p1 p2
              unfold wY_deliver_83
              refine yh_floorOf hq w32 (i2 q) hY ?_
              rw [hF]
              simp only [et, ec, vt8, vc32, true_implies, false_implies, not_true_eq_false, not_false_eq_true, and_true, true_and, and_self, forall_eq, pc_d1, pc_dm1, pc_dm2, pc_dm3, pc_nb0, pc_nb1]
              exact ⟨p1, p2⟩
            refine br_c (fun z => ?_) (fun z => ?_)
            · simp only [wX_deliver_109, wpX_deliveredState, wpX_cellOf, wY_deliver_127, et, vt8, pc_cell, ec, vc32, true_implies, false_implies, not_true_eq_false, not_false_eq_true, and_true, true_and, and_self, forall_eq, pc_d1, pc_dm1, pc_dm2, pc_dm3, pc_nb0, pc_nb1]
              have us : upd pl (t * 4 + i) (F + 1) (t * 4 + i) = F + 1 := pk_us
              rw [us]
              refine br_c (fun y => ?_) (fun y => ?_)
              · refine fin _ (fun _ => yfl _ (fun _ => ?_) (fun z' => absurd z z')) (fun s j hs hh => absurd hh (hno s hs j))
                simp only [wY_deliver_127, et, vt8, ec, vc32, us, true_implies, false_implies, not_true_eq_false, not_false_eq_true, and_true, true_and, and_self, forall_eq, pc_d1, pc_dm1, pc_dm2, pc_dm3, pc_nb0, pc_nb1]
                exact br_t y (J _)
              · refine fin _ (fun _ => yfl _ (fun _ => ?_) (fun z' => absurd z z')) (fun s j hs hh => absurd hh (hno s hs j))
                simp only [wY_deliver_127, et, vt8, ec, vc32, us, true_implies, false_implies, not_true_eq_false, not_false_eq_true, and_true, true_and, and_self, forall_eq, pc_d1, pc_dm1, pc_dm2, pc_dm3, pc_nb0, pc_nb1]
                exact br_f y (J _)
            · simp only [wX_deliver_109, wpX_deliveredState, wpX_cellOf, wY_deliver_127, et, vt8, pc_cell, ec, vc32, true_implies, false_implies, not_true_eq_false, not_false_eq_true, and_true, true_and, and_self, forall_eq, pc_d1, pc_dm1, pc_dm2, pc_dm3, pc_nb0, pc_nb1]
              have us : upd pl (t * 4 + i) (tt t) (t * 4 + i) = tt t := pk_us
              simp only [us, true_implies, false_implies, not_true_eq_false, not_false_eq_true, and_true, true_and, and_self, forall_eq, pc_d1, pc_dm1, pc_dm2, pc_dm3, pc_nb0, pc_nb1]
              refine fin _ (fun _ => yfl _ (fun z' => absurd z' z) (fun _ => ?_)) (fun s j hs hh => absurd hh (hno s hs j))
              simp only [wY_deliver_127, et, vt8, ec, vc32, us, true_implies, false_implies, not_true_eq_false, not_false_eq_true, and_true, true_and, and_self, forall_eq, pc_d1, pc_dm1, pc_dm2, pc_dm3, pc_nb0, pc_nb1]
              exact J _
          · refine br_f hnz (fin _ (fun hno => absurd hh (hno s hs j)) (fun _ _ _ _ => ⟨rfl, R⟩))
        · rcases hu with y | y
          · have y1 : ¬ st t = 1 := by rw [y]; decide
            have y2 : ¬ st t = 2 := by rw [y]; decide
            simp only [wpX_deliver, wpX_isTxn, wpX_isSlot, wpX_isDelivered, wpX_isDecided, wpX_cellOf, f1, f2, et, vt8, s1, s2, pc_cell, ec, vc32, hz, y, true_implies, false_implies, not_true_eq_false, not_false_eq_true, and_true, true_and, and_self, forall_eq, pc_d1, pc_dm1, pc_dm2, pc_dm3, pc_nb0, pc_nb1]
            simp only [wpY_deliver, wpY_validTxn, wpY_validSlot, wpY_undecided, f1, f2, et, vt8, s1, s2, pc_cell, ec, vc32, hz, y1, y2, true_implies, false_implies, not_true_eq_false, not_false_eq_true, and_true, true_and, and_self, forall_eq, pc_d1, pc_dm1, pc_dm2, pc_dm3, pc_nb0, pc_nb1]
            exact R
          · have y1 : ¬ st t = 1 := by rw [y]; decide
            have y2 : ¬ st t = 2 := by rw [y]; decide
            have y3 : ¬ st t = 3 := by rw [y]; decide
            simp only [wpX_deliver, wpX_isTxn, wpX_isSlot, wpX_isDelivered, wpX_isDecided, wpX_cellOf, f1, f2, et, vt8, s1, s2, pc_cell, ec, vc32, hz, y3, true_implies, false_implies, not_true_eq_false, not_false_eq_true, and_true, true_and, and_self, forall_eq, pc_d1, pc_dm1, pc_dm2, pc_dm3, pc_nb0, pc_nb1]
            simp only [y, true_implies, false_implies, not_true_eq_false, not_false_eq_true, and_true, true_and, and_self, forall_eq, pc_d1, pc_dm1, pc_dm2, pc_dm3, pc_nb0, pc_nb1]
            simp only [wpY_deliver, wpY_validTxn, wpY_validSlot, wpY_undecided, f1, f2, et, vt8, s1, s2, pc_cell, ec, vc32, hz, y1, y2, true_implies, false_implies, not_true_eq_false, not_false_eq_true, and_true, true_and, and_self, forall_eq, pc_d1, pc_dm1, pc_dm2, pc_dm3, pc_nb0, pc_nb1]
            exact R
      · simp only [wpX_deliver, wpX_isTxn, wpX_isSlot, wpX_isDelivered, wpX_isDecided, wpX_cellOf, wpY_deliver, wpY_validTxn, wpY_validSlot, wpY_undecided, f1, f2, et, vt8, s1, s2, pc_cell, ec, vc32, hz, true_implies, false_implies, not_true_eq_false, not_false_eq_true, and_true, true_and, and_self, forall_eq, pc_d1, pc_dm1, pc_dm2, pc_dm3, pc_nb0, pc_nb1]
        exact R
end
section
/-! ## finalize, recover, read -/
theorem pc_cell_eq {b : Nat} {st sc ky pl : Nat → Int32} {k : Int32} {t i s j : Nat} (hd : ∀ t i j, i < j → j < pc_n sc t → ¬ ky (t * 4 + i) = ky (t * 4 + j)) (ht : t < b) (hs : s < b)
    (h1 : pc_hit st sc ky pl k t i) (h1' : ∀ r, r < t → ∀ m, ¬ pc_hit st sc ky pl k r m) (h2 : pc_hit st sc ky pl k s j) (h2' : ∀ r, r < s → ∀ m, ¬ pc_hit st sc ky pl k r m) : s * 4 + j = t * 4 + i := by
  have e : s = t := by
    rcases Nat.lt_trichotomy s t with g | g | g
    · exact absurd h2 (h1' s g j)
    · exact g
    · exact absurd h1 (h2' t g i)
  subst e
  rcases Nat.lt_trichotomy i j with g | g | g
  · exact absurd (h1.2.2.2.trans h2.2.2.2.symm) (hd s i j g h2.2.1)
  · rw [g]
  · exact absurd (h2.2.2.2.trans h1.2.2.2.symm) (hd s j i g h1.2.1)
theorem i_vc_finalize {k : Nat} {u : SX} {v : SY} (I : i_Rel k u v) (hk : k + 4 ≤ 2049) (v1 : Int32) : wpX_finalize (fun r u' => wpY_finalize (fun r' v' => r' = r ∧ i_Rel (k + 4) u' v') v v1) u v1 := by
  obtain ⟨b, cp, w, ca, vc, vt, vv, tt, st, al, sg, sc, ky, vl, pl, wk, wt, wv, L, rfl, rfl, hI, hX, hY⟩ := I
  have R : i_Rel (k + 4) (nI cp, nI b, ca, vc, vt, vv, tt, st, al, sg, sc, ky, vl, pl) (nI cp, nI b, nI w, tt, st, al, sg, sc, ky, vl, pl, ca, wk, wt, wv) := ⟨_, _, _, _, _, _, _, _, _, _, _, _, _, _, _, _, _, _, _, rfl, rfl, hI, hX, hY⟩
  obtain ⟨⟨i1, i1'⟩, i2, i3, i4, i5, i6, i7, i8, i9, i10, i11, i12, i13⟩ := id hI
  rcases pc_ix v1 b (by omega) with ⟨h, h'⟩ | ⟨h1, h2, h3, h4⟩ | ⟨t, ht, rfl⟩
  · simp only [wpX_finalize, wpX_coordinatorRefusal, wpX_isTxn, wpY_finalize, wpY_validTxn, h, true_implies, false_implies, not_true_eq_false, not_false_eq_true, and_true, true_and, and_self, forall_eq, pc_d1, pc_dm1, pc_dm2, pc_dm3, pc_nb0, pc_nb1]
    exact R
  · simp only [wpX_finalize, wpX_coordinatorRefusal, wpX_isTxn, wpY_finalize, wpY_validTxn, h1, h4, true_implies, false_implies, not_true_eq_false, not_false_eq_true, and_true, true_and, and_self, forall_eq, pc_d1, pc_dm1, pc_dm2, pc_dm3, pc_nb0, pc_nb1]
    exact R
  · have ht8 : t < 8 := by omega
    have et : (nI t).toNatClampNeg = t := nI_clamp (by omega)
    have vt8 : vp_in (nI t) 8 := vp_in_nI ht8 (by omega)
    have f1 : ¬ nI t < 0 := nI_pos (by omega)
    have f2 : ¬ nI b ≤ nI t := nI_ge ht (by omega)
    have n4 := (i7 t).1
    have en := (i7 t).2
    by_cases hs : st t = 2
    · by_cases ha : al t = 0
      · simp only [wpX_finalize, wpX_coordinatorRefusal, wpX_isTxn, wpY_finalize, wpY_validTxn, f1, f2, et, vt8, hs, ha, true_implies, false_implies, not_true_eq_false, not_false_eq_true, and_true, true_and, and_self, forall_eq, pc_d1, pc_dm1, pc_dm2, pc_dm3, pc_nb0, pc_nb1]
        exact R
      · have s3 : ¬ st t = 3 := by rw [hs]; decide
        have c7 := pc_cn_lt s3 8 ht8
        simp only [wpX_finalize, wpX_coordinatorRefusal, wpX_isTxn, wpY_finalize, wpY_validTxn, f1, f2, et, vt8, hs, ha, true_implies, false_implies, not_true_eq_false, not_false_eq_true, and_true, true_and, and_self, forall_eq, pc_d1, pc_dm1, pc_dm2, pc_dm3, pc_nb0, pc_nb1]
        refine xh_allDel ht8 en n4 (fun hT => ?_) (fun hF => ?_)
        · refine br_f (by decide) (xh_decide ht8 en n4 i9 (i10 t) hX (fun q => by have := i12 q; omega) (fun hA => ?_) (fun hC vc' vt' vv' hX' => ?_))
          · refine yh_del ht8 en n4 (fun z => ?_) (fun _ => yh_fin ht8 en n4 (by omega) hY (fun _ => ⟨rfl, _, _, _, _, _, _, _, _, _, _, _, _, _, _, _, _, _, _, _, rfl, rfl, pc_abort hI ht s3, hX, hY⟩) (fun hC => ?_))
            · obtain ⟨i, hi, y⟩ := z
              exact absurd y (hT i hi)
            · obtain ⟨i, hi, y⟩ := hA
              exact absurd (hC i hi) y
          · refine yh_del ht8 en n4 (fun z => ?_) (fun _ => yh_fin ht8 en n4 (by omega) hY (fun hA => ?_) (fun _ wk' wt' wv' hY' => ⟨rfl, _, _, _, _, _, _, _, _, _, _, _, _, _, _, _, _, _, _, _, rfl, rfl, pc_commit hI ht s3 en n4, hX', hY'⟩))
            · obtain ⟨i, hi, y⟩ := z
              exact absurd y (hT i hi)
            · obtain ⟨i, hi, y⟩ := hA
              exact absurd (hC i hi) y
        · refine br_t (by trivial) (yh_del ht8 en n4 (fun _ => ⟨rfl, R⟩) (fun hT => ?_))
          obtain ⟨i, hi, y⟩ := hF
          exact absurd y (hT i hi)
    · simp only [wpX_finalize, wpX_coordinatorRefusal, wpX_isTxn, wpY_finalize, wpY_validTxn, f1, f2, et, vt8, hs, true_implies, false_implies, not_true_eq_false, not_false_eq_true, and_true, true_and, and_self, forall_eq, pc_d1, pc_dm1, pc_dm2, pc_dm3, pc_nb0, pc_nb1]
      exact R
theorem i_vc_recover {k : Nat} {u : SX} {v : SY} (I : i_Rel k u v) (hk : k + 4 ≤ 2049) (v1 : Int32) : wpX_recover (fun r u' => wpY_recover (fun r' v' => r' = r ∧ i_Rel (k + 4) u' v') v v1) u v1 := by
  obtain ⟨b, cp, w, ca, vc, vt, vv, tt, st, al, sg, sc, ky, vl, pl, wk, wt, wv, L, rfl, rfl, hI, hX, hY⟩ := I
  have R : i_Rel (k + 4) (nI cp, nI b, ca, vc, vt, vv, tt, st, al, sg, sc, ky, vl, pl) (nI cp, nI b, nI w, tt, st, al, sg, sc, ky, vl, pl, ca, wk, wt, wv) := ⟨_, _, _, _, _, _, _, _, _, _, _, _, _, _, _, _, _, _, _, rfl, rfl, hI, hX, hY⟩
  obtain ⟨⟨i1, i1'⟩, i2, i3, i4, i5, i6, i7, i8, i9, i10, i11, i12, i13⟩ := id hI
  rcases pc_ix v1 b (by omega) with ⟨h, h'⟩ | ⟨h1, h2, h3, h4⟩ | ⟨t, ht, rfl⟩
  · simp only [wpX_recover, wpX_isTxn, wpX_isDecided, wpX_abort, wpY_recover, wpY_validTxn, wpY_undecided, wpY_decide, h, true_implies, false_implies, not_true_eq_false, not_false_eq_true, and_true, true_and, and_self, forall_eq, pc_d1, pc_dm1, pc_dm2, pc_dm3, pc_nb0, pc_nb1]
    exact R
  · simp only [wpX_recover, wpX_isTxn, wpX_isDecided, wpX_abort, wpY_recover, wpY_validTxn, wpY_undecided, wpY_decide, h1, h4, true_implies, false_implies, not_true_eq_false, not_false_eq_true, and_true, true_and, and_self, forall_eq, pc_d1, pc_dm1, pc_dm2, pc_dm3, pc_nb0, pc_nb1]
    exact R
  · have ht8 : t < 8 := by omega
    have et : (nI t).toNatClampNeg = t := nI_clamp (by omega)
    have vt8 : vp_in (nI t) 8 := vp_in_nI ht8 (by omega)
    have f1 : ¬ nI t < 0 := nI_pos (by omega)
    have f2 : ¬ nI b ≤ nI t := nI_ge ht (by omega)
    have n4 := (i7 t).1
    have en := (i7 t).2
    rcases i4 t ht with y | y | y | y
    · have y3 : ¬ st t = 3 := by rw [y]; decide
      have y4 : ¬ st t = 4 := by rw [y]; decide
      simp only [wpX_recover, wpX_isTxn, wpX_isDecided, wpX_abort, f1, f2, et, vt8, y3, y4, true_implies, false_implies, not_true_eq_false, not_false_eq_true, and_true, true_and, and_self, forall_eq, pc_d1, pc_dm1, pc_dm2, pc_dm3, pc_nb0, pc_nb1]
      simp only [y, true_implies, false_implies, not_true_eq_false, not_false_eq_true, and_true, true_and, and_self, forall_eq, pc_d1, pc_dm1, pc_dm2, pc_dm3, pc_nb0, pc_nb1]
      simp only [wpY_recover, wpY_validTxn, wpY_undecided, wpY_decide, f1, f2, et, vt8, y, true_implies, false_implies, not_true_eq_false, not_false_eq_true, and_true, true_and, and_self, forall_eq, pc_d1, pc_dm1, pc_dm2, pc_dm3, pc_nb0, pc_nb1]
      exact ⟨_, _, _, _, _, _, _, _, _, _, _, _, _, _, _, _, _, _, _, rfl, rfl, pc_abort hI ht y3, hX, hY⟩
    · have y1 : ¬ st t = 1 := by rw [y]; decide
      have y3 : ¬ st t = 3 := by rw [y]; decide
      have y4 : ¬ st t = 4 := by rw [y]; decide
      have c7 := pc_cn_lt y3 8 ht8
      simp only [wpX_recover, wpX_isTxn, wpX_isDecided, wpX_abort, f1, f2, et, vt8, y1, y3, y4, true_implies, false_implies, not_true_eq_false, not_false_eq_true, and_true, true_and, and_self, forall_eq, pc_d1, pc_dm1, pc_dm2, pc_dm3, pc_nb0, pc_nb1]
      have hI2 : pc_Inv b cp w (pc_pv ca ky pl (tt t) (t * 4) (pc_n sc t)) tt st al sg sc ky pl L := pc_pvI hI (i3 t) _
      have Y : ∀ ψ : Int32 → SY → Prop, wY_recover_81 ψ (nI t) (nI cp) (nI b) (nI w) tt st al sg sc ky vl pl (pc_pv ca ky pl (tt t) (t * 4) (pc_n sc t)) wk wt wv → wpY_recover ψ (nI cp, nI b, nI w, tt, st, al, sg, sc, ky, vl, pl, ca, wk, wt, wv) (nI t) := by
        intro ψ p
        simp only [wpY_recover, wpY_validTxn, wpY_undecided, f1, f2, et, vt8, y1, true_implies, false_implies, not_true_eq_false, not_false_eq_true, and_true, true_and, and_self, forall_eq, pc_d1, pc_dm1, pc_dm2, pc_dm3, pc_nb0, pc_nb1]
        simp only [y, true_implies, false_implies, not_true_eq_false, not_false_eq_true, and_true, true_and, and_self, forall_eq, pc_d1, pc_dm1, pc_dm2, pc_dm3, pc_nb0, pc_nb1]
        exact yh_prevAll ht8 en n4 i9 p
      refine xh_prevAll ht8 en n4 i9 (xh_decide ht8 en n4 i9 (i10 t) hX (fun q => by have := i12 q; omega) (fun hA => Y _ (yh_rec ht8 en n4 (by omega) hY (fun _ => ⟨rfl, _, _, _, _, _, _, _, _, _, _, _, _, _, _, _, _, _, _, _, rfl, rfl, pc_abort hI2 ht y3, hX, hY⟩) (fun hC => ?_))) (fun hC vc' vt' vv' hX' => Y _ (yh_rec ht8 en n4 (by omega) hY (fun hA => ?_) (fun _ wk' wt' wv' hY' => ⟨rfl, _, _, _, _, _, _, _, _, _, _, _, _, _, _, _, _, _, _, _, rfl, rfl, pc_commit hI2 ht y3 en n4, hX', hY'⟩))))
      · obtain ⟨i, hi, y⟩ := hA
        exact absurd (hC i hi) y
      · obtain ⟨i, hi, y⟩ := hA
        exact absurd (hC i hi) y
    · have y1 : ¬ st t = 1 := by rw [y]; decide
      have y2 : ¬ st t = 2 := by rw [y]; decide
      simp only [wpX_recover, wpX_isTxn, wpX_isDecided, wpX_abort, f1, f2, et, vt8, y, true_implies, false_implies, not_true_eq_false, not_false_eq_true, and_true, true_and, and_self, forall_eq, pc_d1, pc_dm1, pc_dm2, pc_dm3, pc_nb0, pc_nb1]
      simp only [wpY_recover, wpY_validTxn, wpY_undecided, wpY_decide, f1, f2, et, vt8, y1, y2, true_implies, false_implies, not_true_eq_false, not_false_eq_true, and_true, true_and, and_self, forall_eq, pc_d1, pc_dm1, pc_dm2, pc_dm3, pc_nb0, pc_nb1]
      exact R
    · have y1 : ¬ st t = 1 := by rw [y]; decide
      have y2 : ¬ st t = 2 := by rw [y]; decide
      have y3 : ¬ st t = 3 := by rw [y]; decide
      simp only [wpX_recover, wpX_isTxn, wpX_isDecided, wpX_abort, f1, f2, et, vt8, y3, true_implies, false_implies, not_true_eq_false, not_false_eq_true, and_true, true_and, and_self, forall_eq, pc_d1, pc_dm1, pc_dm2, pc_dm3, pc_nb0, pc_nb1]
      simp only [y, true_implies, false_implies, not_true_eq_false, not_false_eq_true, and_true, true_and, and_self, forall_eq, pc_d1, pc_dm1, pc_dm2, pc_dm3, pc_nb0, pc_nb1]
      simp only [wpY_recover, wpY_validTxn, wpY_undecided, wpY_decide, f1, f2, et, vt8, y1, y2, true_implies, false_implies, not_true_eq_false, not_false_eq_true, and_true, true_and, and_self, forall_eq, pc_d1, pc_dm1, pc_dm2, pc_dm3, pc_nb0, pc_nb1]
      exact R
theorem i_vc_read {k : Nat} {u : SX} {v : SY} (I : i_Rel k u v) (hk : k + 4 ≤ 2049) (v1 : Int32) (v2 : Int32) : wpX_read (fun r u' => wpY_read (fun r' v' => r' = r ∧ i_Rel (k + 4) u' v') v v1 v2) u v1 v2 := by
  obtain ⟨b, cp, w, ca, vc, vt, vv, tt, st, al, sg, sc, ky, vl, pl, wk, wt, wv, L, rfl, rfl, hI, hX, hY⟩ := I
  have R : i_Rel (k + 4) (nI cp, nI b, ca, vc, vt, vv, tt, st, al, sg, sc, ky, vl, pl) (nI cp, nI b, nI w, tt, st, al, sg, sc, ky, vl, pl, ca, wk, wt, wv) := ⟨_, _, _, _, _, _, _, _, _, _, _, _, _, _, _, _, _, _, _, rfl, rfl, hI, hX, hY⟩
  obtain ⟨⟨i1, i1'⟩, i2, i3, i4, i5, i6, i7, i8, i9, i10, i11, i12, i13⟩ := id hI
  have w32 : w ≤ 32 := by have := pc_cn_le st 8; omega
  rcases pc_ix v1 16 (by omega) with ⟨h, h'⟩ | ⟨h1, h2, h3, h4⟩ | ⟨q, hq, rfl⟩
  · simp only [wpX_read, wpX_isKey, wpX_isTimestamp, wpY_read, h, true_implies, false_implies, not_true_eq_false, not_false_eq_true, and_true, true_and, and_self, forall_eq, pc_d1, pc_dm1, pc_dm2, pc_dm3, pc_nb0, pc_nb1]
    exact R
  · have g4 : 16 ≤ v1 := h4
    simp only [wpX_read, wpX_isKey, wpX_isTimestamp, wpY_read, h1, g4, true_implies, false_implies, not_true_eq_false, not_false_eq_true, and_true, true_and, and_self, forall_eq, pc_d1, pc_dm1, pc_dm2, pc_dm3, pc_nb0, pc_nb1]
    exact R
  · have eq : (nI q).toNatClampNeg = q := nI_clamp (by omega)
    have vq : vp_in (nI q) 16 := vp_in_nI hq (by omega)
    have q1 : ¬ nI q < 0 := nI_pos (by omega)
    have q2 : ¬ 16 ≤ nI q := nI_ge (b := 16) hq (by decide)
    by_cases b1 : v2 < 1
    · simp only [wpX_read, wpX_isKey, wpX_isTimestamp, wpY_read, q1, q2, b1, true_implies, false_implies, not_true_eq_false, not_false_eq_true, and_true, true_and, and_self, forall_eq, pc_d1, pc_dm1, pc_dm2, pc_dm3, pc_nb0, pc_nb1]
      exact R
    · by_cases b2 : 1000000 < v2
      · have b3 : ¬ v2 ≤ 1000000 := Int32.not_le.mpr b2
        simp only [wpX_read, wpX_isKey, wpX_isTimestamp, wpY_read, q1, q2, b1, b2, b3, true_implies, false_implies, not_true_eq_false, not_false_eq_true, and_true, true_and, and_self, forall_eq, pc_d1, pc_dm1, pc_dm2, pc_dm3, pc_nb0, pc_nb1]
        exact R
      · have b3 : v2 ≤ 1000000 := Int32.not_lt.mp b2
        have hx0 : ¬ v2 < 0 := Int32.not_lt.mpr (Int32.le_trans (by decide) (Int32.not_lt.mp b1))
        have yr : ∀ (ψ : Int32 → SY → Prop), ψ ((L q).foldl (pc_rd v2) (-9)) (nI cp, nI b, nI w, tt, st, al, sg, sc, ky, vl, pl, pc_ra ca q v2, wk, wt, wv) → wY_read_47 ψ (nI q) v2 (nI cp) (nI b) (nI w) tt st al sg sc ky vl pl ca wk wt wv := by
          intro ψ p
          unfold pc_ra at p
          simp only [wY_read_47, eq, vq, true_implies, false_implies, not_true_eq_false, not_false_eq_true, and_true, true_and, and_self, forall_eq, pc_d1, pc_dm1, pc_dm2, pc_dm3, pc_nb0, pc_nb1]
          refine br_c (fun z => ?_) (fun z => ?_)
          · rw [if_pos z] at p
            exact yh_last hq w32 hY p
          · rw [if_neg z] at p
            exact yh_last hq w32 hY p
        have Y : ∀ (ψ : Int32 → SY → Prop), ((∀ s, s < b → ∀ j, ¬ pc_hit st sc ky pl (nI q) s j) → wY_read_47 ψ (nI q) v2 (nI cp) (nI b) (nI w) tt st al sg sc ky vl pl ca wk wt wv) → (∀ s j, s < b → pc_hit st sc ky pl (nI q) s j → (∀ r, r < s → ∀ m, ¬ pc_hit st sc ky pl (nI q) r m) → (v2 < pl (s * 4 + j) → wY_read_47 ψ (nI q) v2 (nI cp) (nI b) (nI w) tt st al sg sc ky vl pl ca wk wt wv) ∧ (¬ v2 < pl (s * 4 + j) → ψ (-10) (nI cp, nI b, nI w, tt, st, al, sg, sc, ky, vl, pl, ca, wk, wt, wv))) → wpY_read ψ (nI cp, nI b, nI w, tt, st, al, sg, sc, ky, vl, pl, ca, wk, wt, wv) (nI q) v2 := by
          intro ψ p1 p2
          simp only [wpY_read, q1, q2, b1, b3, true_implies, false_implies, not_true_eq_false, not_false_eq_true, and_true, true_and, and_self, forall_eq, pc_d1, pc_dm1, pc_dm2, pc_dm3, pc_nb0, pc_nb1]
          refine yh_intentOn (by omega) i7 (fun hno => br_t (by decide) (p1 hno)) (fun s j hs hj hh hl => br_f (nI_pos (by omega)) ⟨vp_in_nI (by omega) (by omega), ?_⟩)
          rw [nI_clamp (show s * 4 + j < 2 ^ 31 by omega)]
          exact p2 s j hs hh hl
        have xr : ∀ (φ : Int32 → SX → Prop), φ ((L q).foldl (pc_rd v2) (-9)) (nI cp, nI b, pc_ra ca q v2, vc, vt, vv, tt, st, al, sg, sc, ky, vl, pl) → wX_read_37 φ (nI q) v2 (nI cp) (nI b) ca vc vt vv tt st al sg sc ky vl pl := by
          intro φ p
          unfold wX_read_37
          exact xh_raise hq (xh_last hq hX p)
        have J : i_Rel (k + 4) (nI cp, nI b, pc_ra ca q v2, vc, vt, vv, tt, st, al, sg, sc, ky, vl, pl) (nI cp, nI b, nI w, tt, st, al, sg, sc, ky, vl, pl, pc_ra ca q v2, wk, wt, wv) := ⟨_, _, _, _, _, _, _, _, _, _, _, _, _, _, _, _, _, _, _, rfl, rfl, pc_raI hI hx0, hX, hY⟩
        simp only [wpX_read, wpX_isKey, wpX_isTimestamp, q1, q2, b1, b2, true_implies, false_implies, not_true_eq_false, not_false_eq_true, and_true, true_and, and_self, forall_eq, pc_d1, pc_dm1, pc_dm2, pc_dm3, pc_nb0, pc_nb1]
        refine xh_intentTs (by omega) i4 i7 i10 (fun hno => ?_) (fun s j hs hh hl hnz => ?_)
        · refine br_t (by trivial) (xr _ (Y _ (fun _ => yr _ ⟨rfl, J⟩) (fun s j hs hh _ => absurd hh (hno s hs j))))
        · refine br_f hnz (br_c (fun z => xr _ (Y _ (fun hno => absurd hh (hno s hs j)) (fun s' j' hs' hh' hl' => br_t ?_ (yr _ ⟨rfl, J⟩)))) (fun z => Y _ (fun hno => absurd hh (hno s hs j)) (fun s' j' hs' hh' hl' => br_f ?_ ⟨rfl, R⟩)))
          · rw [pc_cell_eq i10 hs hs' hh hl hh' hl']
            exact z
          · rw [pc_cell_eq i10 hs hs' hh hl hh' hl']
            exact z
end
