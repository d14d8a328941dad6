/-! ## the law's memory: nibbles in four longs -/
def pq_nb (x : Int64) (j : Nat) : Nat := x.toBitVec.toNat / 2 ^ (4 * j) % 16
theorem pq_nb_lt (x : Int64) (j : Nat) : pq_nb x j < 16 := Nat.mod_lt _ (by decide)
theorem pq_nb_0 (j : Nat) : pq_nb 0 j = 0 := by
  show (0 : Int64).toBitVec.toNat / 2 ^ (4 * j) % 16 = 0
  rw [show (0 : Int64).toBitVec.toNat = 0 from by decide, Nat.zero_div]
theorem pq_nb_tb (x : Int64) (j i : Nat) : (pq_nb x j).testBit i = (decide (i < 4) && x.toBitVec.toNat.testBit (4 * j + i)) := by
  show (x.toBitVec.toNat / 2 ^ (4 * j) % 2 ^ 4).testBit i = _
  rw [Nat.testBit_mod_two_pow, Nat.testBit_div_two_pow, Nat.add_comm]
theorem pq_nib (x : Int64) {j : Nat} (hj : j < 16) : ((x.toUInt64 >>> ((nI (4 * j)).toInt64.toUInt64 &&& Int64.toUInt64 63)).toInt64 &&& 15).toInt32 = nI (pq_nb x j) := by
  obtain ⟨n, hn, rfl⟩ := wb_of x
  rw [wb_shr hn (by omega), show (15 : Int64) = lN (2 ^ 4 - 1) from by decide +kernel, wb_mask (Nat.lt_of_le_of_lt (Nat.div_le_self _ _) hn) (by decide), lN_i]
  show nI _ = nI ((lN n).toBitVec.toNat / 2 ^ (4 * j) % 16)
  rw [wb_tn hn]
def pq_put (x : Int64) (j c : Nat) : Int64 := (x &&& ((15 <<< ((nI (4 * j)).toInt64 &&& 63)) ^^^ (-1))) ||| (lN c <<< ((nI (4 * j)).toInt64 &&& 63))
theorem pq_put_bit (x : Int64) {j c : Nat} (hj : j < 16) (hc : c < 16) {p : Nat} (hp : p < 64) : (pq_put x j c).toBitVec.toNat.testBit p = ((x.toBitVec.toNat.testBit p && !(decide (4 * j ≤ p) && decide (p - 4 * j < 4))) || (decide (4 * j ≤ p) && c.testBit (p - 4 * j))) := by
  have e15 : (15 : Int64) = lN 15 := by decide +kernel
  unfold pq_put
  rw [e15, wb_shl 15 (by omega), wb_shl c (by omega)]
  show ((x &&& (lN (15 * 2 ^ (4 * j)) ^^^ (-1))) ||| lN (c * 2 ^ (4 * j))).toBitVec.getLsbD p = _
  rw [Int64.toBitVec_or, Int64.toBitVec_and, Int64.toBitVec_xor, BitVec.getLsbD_or, BitVec.getLsbD_and, BitVec.getLsbD_xor, wb_tb, wb_tb, BitVec.getLsbD_ofNat, BitVec.getLsbD_ofNat, ← Nat.shiftLeft_eq, ← Nat.shiftLeft_eq, Nat.testBit_shiftLeft, Nat.testBit_shiftLeft]
  have em : (-1 : Int64).toBitVec.getLsbD p = true := by
    rw [show (-1 : Int64).toBitVec = BitVec.allOnes 64 from by decide, BitVec.getLsbD_allOnes, decide_eq_true hp]
  have e15b : ∀ i, (15 : Nat).testBit i = decide (i < 4) := by
    intro i
    rw [show (15 : Nat) = 2 ^ 4 - 1 from rfl, Nat.testBit_two_pow_sub_one]
  rw [em, e15b, decide_eq_true hp]
  simp [BitVec.testBit_toNat]
theorem pq_nb_put (x : Int64) {j c : Nat} (hj : j < 16) (hc : c < 16) (i : Nat) (hi : i < 16) : pq_nb (pq_put x j c) i = if i = j then c else pq_nb x i := by
  apply Nat.eq_of_testBit_eq
  intro p
  rw [pq_nb_tb]
  by_cases h4 : p < 4
  · rw [pq_put_bit x hj hc (by omega), decide_eq_true h4, Bool.true_and]
    by_cases e : i = j
    · subst e
      rw [if_pos rfl, show 4 * i + p - 4 * i = p by omega, decide_eq_true h4, decide_eq_true (show 4 * i ≤ 4 * i + p by omega)]
      simp
    · rw [if_neg e, pq_nb_tb, decide_eq_true h4, Bool.true_and]
      by_cases l : 4 * j ≤ 4 * i + p
      · have c0 : c.testBit (4 * i + p - 4 * j) = false := Nat.testBit_lt_two_pow (Nat.lt_of_lt_of_le hc (Nat.pow_le_pow_right (n := 2) (m := 4) (by decide) (by omega)))
        rw [c0, decide_eq_true l, decide_eq_false (show ¬ 4 * i + p - 4 * j < 4 by omega)]
        simp
      · rw [decide_eq_false l]
        simp
  · rw [decide_eq_false h4, Bool.false_and]
    by_cases e : i = j
    · rw [if_pos e]
      exact (Nat.testBit_lt_two_pow (Nat.lt_of_lt_of_le hc (Nat.pow_le_pow_right (n := 2) (m := 4) (by decide) (by omega)))).symm
    · rw [if_neg e, pq_nb_tb, decide_eq_false h4, Bool.false_and]
