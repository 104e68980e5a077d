def bl (x : Int64) (i : Nat) : Bool := x.toBitVec.getLsbD i
theorem bq_ext {x y : Int64} (h : ∀ i, i < 64 → bl x i = bl y i) : x = y := Int64.toBitVec_inj.mp (BitVec.eq_of_getLsbD_eq (fun i hi => h i hi))
theorem bq_or (x y : Int64) (i : Nat) : bl (x ||| y) i = (bl x i || bl y i) := by unfold bl; rw [Int64.toBitVec_or, BitVec.getLsbD_or]
theorem bq_0 (i : Nat) : bl 0 i = false := BitVec.getLsbD_zero
theorem bq_sl : ∀ n, n < 64 → (((nI n).toInt64 &&& 63).toBitVec.smod 64).toNat = n := by decide +kernel
theorem bq_su : ∀ n, n < 64 → (((nI n).toInt64.toUInt64 &&& Int64.toUInt64 63).toBitVec % 64).toNat = n := by decide +kernel
theorem bq_shl (n : Nat) (hn : n < 64) (x : Int64) {i : Nat} (hi : i < 64) : bl (x <<< ((nI n).toInt64 &&& 63)) i = (decide (n ≤ i) && bl x (i - n)) := by
  unfold bl
  rw [Int64.toBitVec_shiftLeft]
  show (x.toBitVec <<< (((nI n).toInt64 &&& 63).toBitVec.smod 64).toNat).getLsbD i = _
  rw [bq_sl n hn, BitVec.getLsbD_shiftLeft]
  rcases Nat.lt_or_ge i n with h | h
  · simp [h, Nat.not_le.mpr h]
  · simp [hi, h, Nat.not_lt.mpr h]
theorem bq_ushr (n : Nat) (hn : n < 64) (x : Int64) (i : Nat) : bl ((x.toUInt64 >>> ((nI n).toInt64.toUInt64 &&& Int64.toUInt64 63)).toInt64) i = bl x (n + i) := by
  show (x.toUInt64 >>> ((nI n).toInt64.toUInt64 &&& Int64.toUInt64 63)).toBitVec.getLsbD i = x.toUInt64.toBitVec.getLsbD (n + i)
  rw [UInt64.toBitVec_shiftRight]
  show (x.toUInt64.toBitVec >>> (((nI n).toInt64.toUInt64 &&& Int64.toUInt64 63).toBitVec % 64).toNat).getLsbD i = _
  rw [bq_su n hn, BitVec.getLsbD_ushiftRight]
theorem bq_lN (n i : Nat) : bl (lN n) i = (decide (i < 64) && n.testBit i) := by
  show (BitVec.ofNat 64 n).getLsbD i = _
  rw [BitVec.getLsbD_ofNat]
theorem bq_nI (n i : Nat) : bt (nI n) i = (decide (i < 32) && n.testBit i) := by
  show (BitVec.ofNat 32 n).getLsbD i = _
  rw [BitVec.getLsbD_ofNat]
theorem bq_i (x : Int64) {i : Nat} (hi : i < 32) : bt x.toInt32 i = bl x i := by
  unfold bt bl
  rw [Int64.toBitVec_toInt32, BitVec.getLsbD_signExtend, if_pos (by omega), decide_eq_true hi, Bool.true_and]
theorem bq_15 : ∀ i, i < 32 → bt 15 i = decide (i < 4) := by decide +kernel
theorem bq_4 (s : Nat) : 4 * nI s = nI (4 * s) := by
  show nI 4 * nI s = _
  rw [pk_mul]
def bq_cl (p : Int64) (x : Int32) : Int32 := (((p.toUInt64 >>> ((4 * x).toInt64.toUInt64 &&& Int64.toUInt64 63)).toInt64).toInt32) &&& 15
theorem bq_cl_bit (p : Int64) {s : Nat} (hs : s < 16) {i : Nat} (hi : i < 32) : bt (bq_cl p (nI s)) i = (decide (i < 4) && bl p (4 * s + i)) := by
  unfold bq_cl
  rw [b_and, bq_i _ hi, bq_4, bq_ushr (4 * s) (by omega), bq_15 i hi, Bool.and_comm]
theorem bq_tb {v i : Nat} (hv : v < 16) (hi : 4 ≤ i) : v.testBit i = false := Nat.testBit_lt_two_pow (Nat.lt_of_lt_of_le hv (Nat.pow_le_pow_right (n := 2) (by decide) hi))
theorem bq_put {r : Int64} {t v s : Nat} (ht : t < 16) (hv : v < 16) (hs : s < 16) (h0 : bq_cl r (nI t) = 0) :
    bq_cl (r ||| ((nI v).toInt64 <<< ((4 * nI t).toInt64 &&& 63))) (nI s) = if s = t then nI v else bq_cl r (nI s) := by
  refine b_ext fun i hi => ?_
  rw [bq_cl_bit _ hs hi, bq_or, nI_l (by omega), bq_4]
  by_cases h4 : i < 4
  · rw [bq_shl (4 * t) (by omega) _ (by omega : 4 * s + i < 64), bq_lN, decide_eq_true h4, Bool.true_and]
    by_cases e : s = t
    · subst e
      have z : bl r (4 * s + i) = false := by
        have q := bq_cl_bit r hs hi
        rw [h0, b_0, decide_eq_true h4, Bool.true_and] at q
        exact q.symm
      rw [if_pos rfl, z, bq_nI, decide_eq_true (by omega : 4 * s ≤ 4 * s + i), show 4 * s + i - 4 * s = i by omega, decide_eq_true (by omega : i < 64), decide_eq_true hi]
      simp
    · rw [if_neg e, bq_cl_bit r hs hi, decide_eq_true h4, Bool.true_and]
      by_cases l : s < t
      · rw [decide_eq_false (by omega : ¬ 4 * t ≤ 4 * s + i), Bool.false_and, Bool.or_false]
      · rw [bq_tb hv (by omega : 4 ≤ 4 * s + i - 4 * t), Bool.and_false, Bool.and_false, Bool.or_false]
  · rw [decide_eq_false h4, Bool.false_and]
    by_cases e : s = t
    · rw [if_pos e, bq_nI, bq_tb hv (by omega), Bool.and_false]
    · rw [if_neg e, bq_cl_bit r hs hi, decide_eq_false h4, Bool.false_and]
theorem bq_cl0 {s : Nat} (hs : s < 16) : bq_cl 0 (nI s) = 0 := by
  refine b_ext fun i hi => ?_
  rw [bq_cl_bit _ hs hi, bq_0, b_0, Bool.and_false]
theorem bq_l1 : ∀ i, i < 64 → bl 1 i = decide (i = 0) := by decide +kernel
theorem bq_l48 : ∀ i, i < 64 → bl 281474976710656 i = decide (i = 48) := by decide +kernel
theorem bq_bit {k : Nat} (hk : k < 64) {i : Nat} (hi : i < 64) : bl ((1 : Int64) <<< ((nI k).toInt64 &&& 63)) i = decide (i = k) := by
  rw [bq_shl k hk _ hi]
  by_cases e : i = k
  · subst e
    rw [bq_l1 _ (by omega)]
    simp
  · rw [decide_eq_false e]
    by_cases l : k ≤ i
    · rw [bq_l1 _ (by omega), decide_eq_false (by omega : ¬ i - k = 0), Bool.and_false]
    · rw [decide_eq_false l, Bool.false_and]
theorem bq_con1 (x : Int32) {s : Nat} (hs : s < 32) : ((x >>> (nI s &&& 31)) &&& 1) = 1 ↔ bt x s = true := by
  constructor
  · intro h
    refine Classical.byContradiction fun q => ?_
    rw [(bb_con x hs).mpr q] at h
    exact absurd h (by decide)
  · intro q
    refine b_ext fun i hi => ?_
    rw [bb_1, b_and, bb_1]
    by_cases e : i = 0
    · subst e
      rw [b_sshr s hs x (by decide), if_pos (by omega)]
      simp [q]
    · rw [decide_eq_false e, Bool.and_false]
