/-! ## bits (rows to paste of the kit) -/
def bt (x : Int32) (i : Nat) : Bool := x.toBitVec.getLsbD i
theorem b_ext {x y : Int32} (h : ∀ i, i < 32 → bt x i = bt y i) : x = y := Int32.toBitVec_inj.mp (BitVec.eq_of_getLsbD_eq (fun i hi => h i hi))
theorem b_or (x y : Int32) (i : Nat) : bt (x ||| y) i = (bt x i || bt y i) := by unfold bt; rw [Int32.toBitVec_or, BitVec.getLsbD_or]
theorem b_and (x y : Int32) (i : Nat) : bt (x &&& y) i = (bt x i && bt y i) := by unfold bt; rw [Int32.toBitVec_and, BitVec.getLsbD_and]
theorem b_big {x : Int32} {i : Nat} (h : 32 ≤ i) : bt x i = false := BitVec.getLsbD_of_ge _ _ h
theorem b_0 (i : Nat) : bt 0 i = false := BitVec.getLsbD_zero
theorem s_l : ∀ n, n < 32 → ((nI n &&& 31).toBitVec.smod 32).toNat = n := by decide +kernel
theorem b_shl (n : Nat) (hn : n < 32) (x : Int32) {i : Nat} (hi : i < 32) : bt (x <<< (nI n &&& 31)) i = (decide (n ≤ i) && bt x (i - n)) := by
  unfold bt
  rw [Int32.toBitVec_shiftLeft]
  show (x.toBitVec <<< ((nI n &&& 31).toBitVec.smod 32).toNat).getLsbD i = _
  rw [s_l n hn, BitVec.getLsbD_shiftLeft]
  rcases Nat.lt_or_ge i n with h | h
  · simp [h, Nat.not_le.mpr h]
  · simp [hi, h, Nat.not_lt.mpr h]
theorem b_sshr (n : Nat) (hn : n < 32) (x : Int32) {i : Nat} (hi : i < 32) : bt (x >>> (nI n &&& 31)) i = if n + i < 32 then bt x (n + i) else bt x 31 := by
  unfold bt
  rw [Int32.toBitVec_shiftRight]
  show (x.toBitVec.sshiftRight ((nI n &&& 31).toBitVec.smod 32).toNat).getLsbD i = _
  rw [s_l n hn, BitVec.getLsbD_sshiftRight, BitVec.msb_eq_getLsbD_last]
  simp [hi]
theorem wb_tb (n : Nat) : (lN n).toBitVec = BitVec.ofNat 64 n := rfl
theorem wb_inj {a b : Int64} (h : a.toBitVec = b.toBitVec) : a = b := Int64.toBitVec_inj.mp h
theorem wb_tn {n : Nat} (h : n < 2 ^ 64) : (lN n).toBitVec.toNat = n := by rw [wb_tb, BitVec.toNat_ofNat, Nat.mod_eq_of_lt h]
theorem wb_of (x : Int64) : ∃ n, n < 2 ^ 64 ∧ x = lN n := ⟨x.toBitVec.toNat, x.toBitVec.isLt, wb_inj (by rw [wb_tb]; simp)⟩
theorem wb_c : ∀ k, k < 64 → ((nI k).toInt64 &&& 63) = lN k := by decide +kernel
theorem wb_cu : ∀ k, k < 64 → ((nI k).toInt64.toUInt64 &&& Int64.toUInt64 63) = UInt64.ofNat k := by decide +kernel
theorem wb_sm : ∀ k, k < 64 → (BitVec.ofNat 64 k).smod 64 = BitVec.ofNat 64 k := by decide +kernel
theorem wb_lt2 {a b : Nat} (h : a < b) : 2 ^ a < 2 ^ b := Nat.pow_lt_pow_right (by decide) h
theorem wb_shr {n k : Nat} (hn : n < 2 ^ 64) (hk : k < 64) : ((lN n).toUInt64 >>> ((nI k).toInt64.toUInt64 &&& Int64.toUInt64 63)).toInt64 = lN (n / 2 ^ k) := by
  rw [wb_cu k hk]
  apply wb_inj
  apply BitVec.eq_of_toNat_eq
  show ((lN n).toUInt64 >>> UInt64.ofNat k).toNat = (BitVec.ofNat 64 _).toNat
  have h1 : (UInt64.ofNat k).toNat = k := by
    show (BitVec.ofNat 64 k).toNat = k
    rw [BitVec.toNat_ofNat, Nat.mod_eq_of_lt (by omega)]
  have h2 : (lN n).toUInt64.toNat = n := wb_tn hn
  rw [UInt64.toNat_shiftRight, h1, h2, Nat.mod_eq_of_lt hk, Nat.shiftRight_eq_div_pow, BitVec.toNat_ofNat, Nat.mod_eq_of_lt (Nat.lt_of_le_of_lt (Nat.div_le_self _ _) hn)]
theorem wb_shl (n : Nat) {k : Nat} (hk : k < 64) : lN n <<< ((nI k).toInt64 &&& 63) = lN (n * 2 ^ k) := by
  rw [wb_c k hk]
  apply wb_inj
  rw [Int64.toBitVec_shiftLeft, wb_tb, wb_tb, wb_tb, wb_sm k hk]
  apply BitVec.eq_of_toNat_eq
  rw [BitVec.shiftLeft_eq', BitVec.toNat_shiftLeft, BitVec.toNat_ofNat, BitVec.toNat_ofNat, BitVec.toNat_ofNat, Nat.mod_eq_of_lt (show k < 2 ^ 64 by omega), Nat.shiftLeft_eq, Nat.mul_mod, Nat.mod_mod, ← Nat.mul_mod]
theorem wb_and {a b : Nat} (ha : a < 2 ^ 64) (hb : b < 2 ^ 64) : lN a &&& lN b = lN (a &&& b) := by
  apply wb_inj
  rw [Int64.toBitVec_and, wb_tb, wb_tb, wb_tb]
  apply BitVec.eq_of_toNat_eq
  rw [BitVec.toNat_and, BitVec.toNat_ofNat, BitVec.toNat_ofNat, BitVec.toNat_ofNat, Nat.mod_eq_of_lt ha, Nat.mod_eq_of_lt hb, Nat.mod_eq_of_lt (Nat.and_lt_two_pow _ hb)]
theorem wb_mask {n k : Nat} (hn : n < 2 ^ 64) (hk : k < 64) : lN n &&& lN (2 ^ k - 1) = lN (n % 2 ^ k) := by
  rw [wb_and hn (by have := wb_lt2 hk; omega), Nat.and_two_pow_sub_one_eq_mod]
/-! ## the law's memory: nibbles in four longs -/
def pq_nb (x : Int64) (j : Nat) : Nat := x.toBitVec.toNat / 2 ^ (4 * j) % 16
theorem pq_nb_lt (x : Int64) (j : Nat) : pq_nb x j < 16 := Nat.mod_lt _ (by decide)
theorem pq_nb_0 (j : Nat) : pq_nb 0 j = 0 := by
  show (0 : Int64).toBitVec.toNat / 2 ^ (4 * j) % 16 = 0
  rw [show (0 : Int64).toBitVec.toNat = 0 from by decide, Nat.zero_div]
theorem pq_nb_tb (x : Int64) (j i : Nat) : (pq_nb x j).testBit i = (decide (i < 4) && x.toBitVec.toNat.testBit (4 * j + i)) := by
  show (x.toBitVec.toNat / 2 ^ (4 * j) % 2 ^ 4).testBit i = _
  rw [Nat.testBit_mod_two_pow, Nat.testBit_div_two_pow, Nat.add_comm]
theorem pq_nib (x : Int64) {j : Nat} (hj : j < 16) : ((x.toUInt64 >>> ((nI (4 * j)).toInt64.toUInt64 &&& Int64.toUInt64 63)).toInt64 &&& 15).toInt32 = nI (pq_nb x j) := by
  obtain ⟨n, hn, rfl⟩ := wb_of x
  rw [wb_shr hn (by omega), show (15 : Int64) = lN (2 ^ 4 - 1) from by decide +kernel, wb_mask (Nat.lt_of_le_of_lt (Nat.div_le_self _ _) hn) (by decide), lN_i]
  show nI _ = nI ((lN n).toBitVec.toNat / 2 ^ (4 * j) % 16)
  rw [wb_tn hn]
def pq_put (x : Int64) (j c : Nat) : Int64 := (x &&& ((15 <<< ((nI (4 * j)).toInt64 &&& 63)) ^^^ (-1))) ||| (lN c <<< ((nI (4 * j)).toInt64 &&& 63))
theorem pq_put_bit (x : Int64) {j c : Nat} (hj : j < 16) (hc : c < 16) {p : Nat} (hp : p < 64) : (pq_put x j c).toBitVec.toNat.testBit p = ((x.toBitVec.toNat.testBit p && !(decide (4 * j ≤ p) && decide (p - 4 * j < 4))) || (decide (4 * j ≤ p) && c.testBit (p - 4 * j))) := by
  have e15 : (15 : Int64) = lN 15 := by decide +kernel
  unfold pq_put
  rw [e15, wb_shl 15 (by omega), wb_shl c (by omega)]
  show ((x &&& (lN (15 * 2 ^ (4 * j)) ^^^ (-1))) ||| lN (c * 2 ^ (4 * j))).toBitVec.getLsbD p = _
  rw [Int64.toBitVec_or, Int64.toBitVec_and, Int64.toBitVec_xor, BitVec.getLsbD_or, BitVec.getLsbD_and, BitVec.getLsbD_xor, wb_tb, wb_tb, BitVec.getLsbD_ofNat, BitVec.getLsbD_ofNat, ← Nat.shiftLeft_eq, ← Nat.shiftLeft_eq, Nat.testBit_shiftLeft, Nat.testBit_shiftLeft]
  have em : (-1 : Int64).toBitVec.getLsbD p = true := by
    rw [show (-1 : Int64).toBitVec = BitVec.allOnes 64 from by decide, BitVec.getLsbD_allOnes, decide_eq_true hp]
  have e15b : ∀ i, (15 : Nat).testBit i = decide (i < 4) := by
    intro i
    rw [show (15 : Nat) = 2 ^ 4 - 1 from rfl, Nat.testBit_two_pow_sub_one]
  rw [em, e15b, decide_eq_true hp]
  simp [BitVec.testBit_toNat]
theorem pq_nb_put (x : Int64) {j c : Nat} (hj : j < 16) (hc : c < 16) (i : Nat) (hi : i < 16) : pq_nb (pq_put x j c) i = if i = j then c else pq_nb x i := by
  apply Nat.eq_of_testBit_eq
  intro p
  rw [pq_nb_tb]
  by_cases h4 : p < 4
  · rw [pq_put_bit x hj hc (by omega), decide_eq_true h4, Bool.true_and]
    by_cases e : i = j
    · subst e
      rw [if_pos rfl, show 4 * i + p - 4 * i = p by omega, decide_eq_true h4, decide_eq_true (show 4 * i ≤ 4 * i + p by omega)]
      simp
    · rw [if_neg e, pq_nb_tb, decide_eq_true h4, Bool.true_and]
      by_cases l : 4 * j ≤ 4 * i + p
      · have c0 : c.testBit (4 * i + p - 4 * j) = false := Nat.testBit_lt_two_pow (Nat.lt_of_lt_of_le hc (Nat.pow_le_pow_right (n := 2) (i := 4) (by decide) (by omega)))
        rw [c0, decide_eq_true l, decide_eq_false (show ¬ 4 * i + p - 4 * j < 4 by omega)]
        simp
      · rw [decide_eq_false l]
        simp
  · rw [decide_eq_false h4, Bool.false_and]
    by_cases e : i = j
    · rw [if_pos e]
      exact (Nat.testBit_lt_two_pow (Nat.lt_of_lt_of_le hc (Nat.pow_le_pow_right (n := 2) (i := 4) (by decide) (by omega)))).symm
    · rw [if_neg e, pq_nb_tb, decide_eq_false h4, Bool.false_and]
