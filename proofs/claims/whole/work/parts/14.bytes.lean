/-! the eight bytes of a long -/
def lbit (x : Int64) (k : Nat) : Bool := x.toBitVec.getLsbD k
def lb (x : Int64) (i : Nat) : Nat := x.toBitVec.toNat / 2 ^ (8 * i) % 2 ^ 8
theorem lb_bit (x : Int64) (i j : Nat) : (lb x i).testBit j = (decide (j < 8) && lbit x (8 * i + j)) := by
  unfold lb lbit
  rw [Nat.testBit_mod_two_pow, Nat.testBit_div_two_pow, BitVec.testBit_toNat, Nat.add_comm]
theorem lb_lt (x : Int64) (i : Nat) : lb x i < 256 := Nat.mod_lt _ (by decide)
theorem lbit_eq (x : Int64) (k : Nat) : lbit x k = (lb x (k / 8)).testBit (k % 8) := by
  rw [lb_bit, decide_eq_true (show k % 8 < 8 by omega), Bool.true_and, show 8 * (k / 8) + k % 8 = k by omega]
theorem lb_ext {x y : Int64} (h : ∀ i, i < 8 → lb x i = lb y i) : x = y := by
  apply Int64.toBitVec_inj.mp
  apply BitVec.eq_of_getLsbD_eq
  intro k hk
  show lbit x k = lbit y k
  rw [lbit_eq, lbit_eq, h (k / 8) (by omega)]
theorem lb_of {x : Int64} {i n : Nat} (hn : n < 256) (h : ∀ j, j < 8 → lbit x (8 * i + j) = n.testBit j) : lb x i = n := by
  apply Nat.eq_of_testBit_eq
  intro j
  rw [lb_bit]
  by_cases hj : j < 8
  · rw [decide_eq_true hj, Bool.true_and, h j hj]
  · rw [decide_eq_false hj, Bool.false_and, Nat.testBit_lt_two_pow (Nat.lt_of_lt_of_le (show n < 2 ^ 8 from hn) (Nat.pow_le_pow_right (by decide) (by omega)))]
theorem lbit_xor (x y : Int64) (k : Nat) : lbit (x ^^^ y) k = (lbit x k ^^ lbit y k) := by unfold lbit; rw [Int64.toBitVec_xor, BitVec.getLsbD_xor]
theorem lbit_and (x y : Int64) (k : Nat) : lbit (x &&& y) k = (lbit x k && lbit y k) := by unfold lbit; rw [Int64.toBitVec_and, BitVec.getLsbD_and]
theorem lbit_or (x y : Int64) (k : Nat) : lbit (x ||| y) k = (lbit x k || lbit y k) := by unfold lbit; rw [Int64.toBitVec_or, BitVec.getLsbD_or]
theorem lb_xor (x y : Int64) (i : Nat) : lb (x ^^^ y) i = lb x i ^^^ lb y i := by
  apply Nat.eq_of_testBit_eq
  intro j
  rw [Nat.testBit_xor, lb_bit, lb_bit, lb_bit, lbit_xor]
  cases decide (j < 8) <;> simp
theorem lb_or (x y : Int64) (i : Nat) : lb (x ||| y) i = lb x i ||| lb y i := by
  apply Nat.eq_of_testBit_eq
  intro j
  rw [Nat.testBit_or, lb_bit, lb_bit, lb_bit, lbit_or]
  cases decide (j < 8) <;> simp
theorem lb_and (x y : Int64) (i : Nat) : lb (x &&& y) i = lb x i &&& lb y i := by
  apply Nat.eq_of_testBit_eq
  intro j
  rw [Nat.testBit_and, lb_bit, lb_bit, lb_bit, lbit_and]
  cases decide (j < 8) <;> simp
theorem lb_lN {n : Nat} (h : n < 2 ^ 64) (i : Nat) : lb (lN n) i = n / 2 ^ (8 * i) % 256 := by
  unfold lb
  rw [wb_tn h]
theorem lb_0 (i : Nat) : lb 0 i = 0 := by
  have : lb (lN 0) i = 0 := by rw [lb_lN (by decide), Nat.zero_div]
  exact this
theorem lb_small {a : Nat} (h : a < 256) (i : Nat) : lb (lN a) i = if i = 0 then a else 0 := by
  rw [lb_lN (by omega)]
  cases i with
  | zero => rw [if_pos rfl, Nat.mul_zero, Nat.pow_zero, Nat.div_one, Nat.mod_eq_of_lt h]
  | succ n => rw [if_neg (by omega), Nat.div_eq_of_lt (Nat.lt_of_lt_of_le (show a < 2 ^ 8 from h) (Nat.pow_le_pow_right (by decide) (by omega)))]
/-- byteOf -/
theorem byteOf_eq (x : Int64) {i : Nat} (hi : i < 8) : ((x.toUInt64 >>> (((8 : Int32) * nI i).toInt64.toUInt64 &&& Int64.toUInt64 63)).toInt64).toInt32 &&& (255 : Int32) = nI (lb x i) := by
  obtain ⟨n, hn, rfl⟩ := wb_of x
  rw [show (8 : Int32) * nI i = nI (8 * i) from pk_mul 8 i, wb_shr hn (by omega), lN_i, lb_lN hn]
  exact fa_mask _ 8
theorem sX5_byteOf {x : Int64} {i : Nat} (hi : i < 8) {post : Int32 → Prop} (h : post (nI (lb x i))) : pX5_byteOf x (nI i) post := by
  unfold pX5_byteOf
  rw [byteOf_eq x hi]
  exact h
/-! doubling all bytes at once -/
def dbl (x : Int64) : Int64 := ((x &&& (9187201950435737471 : Int64)) <<< (((1 : Int32)).toInt64 &&& 63)) ^^^ (((x.toUInt64 >>> (((7 : Int32)).toInt64.toUInt64 &&& Int64.toUInt64 63)).toInt64 &&& (72340172838076673 : Int64)) * (27 : Int64))
theorem db_7f : ∀ k, k < 64 → lbit 9187201950435737471 k = decide (k % 8 ≠ 7) := by decide +kernel
theorem db_01 : ∀ k, k < 64 → lbit 72340172838076673 k = decide (k % 8 = 0) := by decide +kernel
theorem lbit_big {x : Int64} {k : Nat} (h : 64 ≤ k) : lbit x k = false := BitVec.getLsbD_of_ge _ _ h
theorem db_shl (x : Int64) (k : Nat) : lbit (x <<< (((1 : Int32)).toInt64 &&& 63)) k = (decide (k < 64) && (decide (1 ≤ k) && lbit x (k - 1))) := by
  unfold lbit
  rw [Int64.toBitVec_shiftLeft]
  show (x.toBitVec <<< ((((1 : Int32)).toInt64 &&& 63).toBitVec.smod 64).toNat).getLsbD k = _
  rw [show ((((1 : Int32)).toInt64 &&& 63).toBitVec.smod 64).toNat = 1 by decide, BitVec.getLsbD_shiftLeft]
  by_cases h1 : k < 64 <;> by_cases h2 : 1 ≤ k <;> simp [h1, h2] <;> omega
theorem db_shr (x : Int64) (k : Nat) : lbit ((x.toUInt64 >>> (((7 : Int32)).toInt64.toUInt64 &&& Int64.toUInt64 63)).toInt64) k = lbit x (7 + k) := by
  show (x.toUInt64 >>> (((7 : Int32)).toInt64.toUInt64 &&& Int64.toUInt64 63)).toBitVec.getLsbD k = x.toUInt64.toBitVec.getLsbD (7 + k)
  rw [UInt64.toBitVec_shiftRight]
  show (x.toUInt64.toBitVec >>> ((((7 : Int32)).toInt64.toUInt64 &&& Int64.toUInt64 63).toBitVec % 64).toNat).getLsbD k = _
  rw [show ((((7 : Int32)).toInt64.toUInt64 &&& Int64.toUInt64 63).toBitVec % 64).toNat = 7 by decide, BitVec.getLsbD_ushiftRight]
theorem mul27 (Z : BitVec 64) (hz : ∀ k, Z.getLsbD k = true → k % 8 = 0) : Z * 27#64 = Z ||| (Z <<< 1) ||| (Z <<< 3) ||| (Z <<< 4) := by
  have e : Z * 27#64 = Z + (Z <<< 1) + (Z <<< 3) + (Z <<< 4) := by
    apply BitVec.eq_of_toNat_eq
    simp only [BitVec.toNat_mul, BitVec.toNat_add, BitVec.toNat_shiftLeft, Nat.shiftLeft_eq, BitVec.toNat_ofNat]
    omega
  have a1 : Z &&& (Z <<< 1) = 0#64 := by
    apply BitVec.eq_of_getLsbD_eq
    intro k hk
    rw [BitVec.getLsbD_and, BitVec.getLsbD_shiftLeft, BitVec.getLsbD_zero]
    refine Bool.eq_false_iff.mpr (fun h => ?_)
    simp only [Bool.and_eq_true, Bool.not_eq_true', decide_eq_false_iff_not, decide_eq_true_eq] at h
    have h1 := hz _ h.1
    have h2 := hz _ h.2.2
    omega
  have a2 : (Z ||| (Z <<< 1)) &&& (Z <<< 3) = 0#64 := by
    apply BitVec.eq_of_getLsbD_eq
    intro k hk
    rw [BitVec.getLsbD_and, BitVec.getLsbD_or, BitVec.getLsbD_shiftLeft, BitVec.getLsbD_shiftLeft, BitVec.getLsbD_zero]
    refine Bool.eq_false_iff.mpr (fun h => ?_)
    simp only [Bool.and_eq_true, Bool.or_eq_true, Bool.not_eq_true', decide_eq_false_iff_not, decide_eq_true_eq] at h
    obtain ⟨h1, h2⟩ := h
    have h3 := hz _ h2.2
    rcases h1 with q | q
    · have h4 := hz _ q
      omega
    · have h4 := hz _ q.2
      omega
  have a3 : (Z ||| (Z <<< 1) ||| (Z <<< 3)) &&& (Z <<< 4) = 0#64 := by
    apply BitVec.eq_of_getLsbD_eq
    intro k hk
    rw [BitVec.getLsbD_and, BitVec.getLsbD_or, BitVec.getLsbD_or, BitVec.getLsbD_shiftLeft, BitVec.getLsbD_shiftLeft, BitVec.getLsbD_shiftLeft, BitVec.getLsbD_zero]
    refine Bool.eq_false_iff.mpr (fun h => ?_)
    simp only [Bool.and_eq_true, Bool.or_eq_true, Bool.not_eq_true', decide_eq_false_iff_not, decide_eq_true_eq] at h
    obtain ⟨h1, h2⟩ := h
    have h3 := hz _ h2.2
    rcases h1 with (q | q) | q
    · have h4 := hz _ q
      omega
    · have h4 := hz _ q.2
      omega
    · have h4 := hz _ q.2
      omega
  rw [e, BitVec.add_eq_or_of_and_eq_zero _ _ a1, BitVec.add_eq_or_of_and_eq_zero _ _ a2, BitVec.add_eq_or_of_and_eq_zero _ _ a3]
theorem db_mul {z : Int64} (hz : ∀ k, lbit z k = true → k % 8 = 0) {i j : Nat} (hi : i < 8) (hj : j < 8) : lbit (z * 27) (8 * i + j) = ((decide (j = 0) || decide (j = 1) || decide (j = 3) || decide (j = 4)) && lbit z (8 * i)) := by
  unfold lbit at *
  rw [Int64.toBitVec_mul]
  show (z.toBitVec * 27#64).getLsbD (8 * i + j) = _
  rw [mul27 _ hz]
  generalize z.toBitVec = Z at *
  have hb : ∀ k, k % 8 ≠ 0 → Z.getLsbD k = false := fun k hk => Bool.eq_false_iff.mpr (fun h => hk (hz k h))
  rw [BitVec.getLsbD_or, BitVec.getLsbD_or, BitVec.getLsbD_or, BitVec.getLsbD_shiftLeft, BitVec.getLsbD_shiftLeft, BitVec.getLsbD_shiftLeft]
  have h64 : 8 * i + j < 64 := by omega
  rcases (show j = 0 ∨ j = 1 ∨ j = 2 ∨ j = 3 ∨ j = 4 ∨ j = 5 ∨ j = 6 ∨ j = 7 by omega) with rfl | rfl | rfl | rfl | rfl | rfl | rfl | rfl
  · by_cases e : i = 0
    · subst e; simp
    · rw [hb (8 * i + 0 - 1) (by omega), hb (8 * i + 0 - 3) (by omega), hb (8 * i + 0 - 4) (by omega)]; simp
  · rw [hb (8 * i + 1) (by omega), show 8 * i + 1 - 1 = 8 * i by omega]
    by_cases e : i = 0
    · subst e; simp
    · rw [hb (8 * i + 1 - 3) (by omega), hb (8 * i + 1 - 4) (by omega)]; simp; omega
  · rw [hb (8 * i + 2) (by omega), hb (8 * i + 2 - 1) (by omega)]
    by_cases e : i = 0
    · subst e; simp
    · rw [hb (8 * i + 2 - 3) (by omega), hb (8 * i + 2 - 4) (by omega)]; simp
  · rw [hb (8 * i + 3) (by omega), hb (8 * i + 3 - 1) (by omega), show 8 * i + 3 - 3 = 8 * i by omega]
    by_cases e : i = 0
    · subst e; simp
    · rw [hb (8 * i + 3 - 4) (by omega)]; simp; omega
  · rw [hb (8 * i + 4) (by omega), hb (8 * i + 4 - 1) (by omega), hb (8 * i + 4 - 3) (by omega), show 8 * i + 4 - 4 = 8 * i by omega]
    simp; omega
  · rw [hb (8 * i + 5) (by omega), hb (8 * i + 5 - 1) (by omega), hb (8 * i + 5 - 3) (by omega), hb (8 * i + 5 - 4) (by omega)]
    simp
  · rw [hb (8 * i + 6) (by omega), hb (8 * i + 6 - 1) (by omega), hb (8 * i + 6 - 3) (by omega), hb (8 * i + 6 - 4) (by omega)]
    simp
  · rw [hb (8 * i + 7) (by omega), hb (8 * i + 7 - 1) (by omega), hb (8 * i + 7 - 3) (by omega), hb (8 * i + 7 - 4) (by omega)]
    simp
set_option maxRecDepth 100000 in
theorem gx2_bit_chk : gAll 256 (fun a => gAll 8 (fun j => (gx2 a).testBit j == ((decide (1 ≤ j) && a.testBit (j - 1)) ^^ ((decide (j = 0) || decide (j = 1) || decide (j = 3) || decide (j = 4)) && a.testBit 7)))) = true := by decide +kernel
theorem gx2_bit {a j : Nat} (ha : a < 256) (hj : j < 8) : (gx2 a).testBit j = ((decide (1 ≤ j) && a.testBit (j - 1)) ^^ ((decide (j = 0) || decide (j = 1) || decide (j = 3) || decide (j = 4)) && a.testBit 7)) :=
  eq_of_beq (gAll_spec _ _ (gAll_spec _ _ gx2_bit_chk a ha) j hj)
theorem lb_dbl (x : Int64) {i : Nat} (hi : i < 8) : lb (dbl x) i = gx2 (lb x i) := by
  refine lb_of (gx2_lt (lb_lt x i)) (fun j hj => ?_)
  rw [gx2_bit (lb_lt x i) hj, lb_bit, lb_bit, decide_eq_true (show 7 < 8 by omega), decide_eq_true (show j - 1 < 8 by omega), Bool.true_and, Bool.true_and]
  unfold dbl
  have hz : ∀ k, lbit ((x.toUInt64 >>> (((7 : Int32)).toInt64.toUInt64 &&& Int64.toUInt64 63)).toInt64 &&& (72340172838076673 : Int64)) k = true → k % 8 = 0 := by
    intro k h
    rcases Nat.lt_or_ge k 64 with q | q
    · rw [lbit_and, db_01 k q] at h
      simp only [Bool.and_eq_true, decide_eq_true_eq] at h
      exact h.2
    · rw [lbit_big q] at h; cases h
  rw [lbit_xor, db_mul hz hi hj, lbit_and, db_shr, db_01 (8 * i) (by omega), decide_eq_true (show 8 * i % 8 = 0 by omega), Bool.and_true, db_shl, decide_eq_true (show 8 * i + j < 64 by omega), Bool.true_and, lbit_and]
  congr 1
  · by_cases e : 1 ≤ j
    · rw [decide_eq_true (show 1 ≤ 8 * i + j by omega), decide_eq_true e, Bool.true_and, Bool.true_and, db_7f _ (by omega), decide_eq_true (show (8 * i + j - 1) % 8 ≠ 7 by omega), Bool.and_true, show 8 * i + (j - 1) = 8 * i + j - 1 by omega]
    · have hj0 : j = 0 := by omega
      subst hj0
      rw [decide_eq_false e, Bool.false_and]
      by_cases e2 : i = 0
      · subst e2; simp
      · rw [db_7f _ (by omega), decide_eq_false (show ¬ (8 * i + 0 - 1) % 8 ≠ 7 by omega), Bool.and_false, Bool.and_false]
  · rw [show 7 + 8 * i = 8 * i + 7 by omega]
