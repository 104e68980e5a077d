def bt (x : Int32) (i : Nat) : Bool := x.toBitVec.getLsbD i
theorem b_ext {x y : Int32} (h : ∀ i, i < 32 → bt x i = bt y i) : x = y := Int32.toBitVec_inj.mp (BitVec.eq_of_getLsbD_eq (fun i hi => h i hi))
theorem b_or (x y : Int32) (i : Nat) : bt (x ||| y) i = (bt x i || bt y i) := by unfold bt; rw [Int32.toBitVec_or, BitVec.getLsbD_or]
theorem b_and (x y : Int32) (i : Nat) : bt (x &&& y) i = (bt x i && bt y i) := by unfold bt; rw [Int32.toBitVec_and, BitVec.getLsbD_and]
theorem b_xor (x y : Int32) (i : Nat) : bt (x ^^^ y) i = (bt x i ^^ bt y i) := by unfold bt; rw [Int32.toBitVec_xor, BitVec.getLsbD_xor]
theorem b_big {x : Int32} {i : Nat} (h : 32 ≤ i) : bt x i = false := BitVec.getLsbD_of_ge _ _ h
theorem b_m1 : ∀ i, i < 32 → bt (-1) i = true := by decide +kernel
theorem b_0 (i : Nat) : bt 0 i = false := BitVec.getLsbD_zero
theorem s_l : ∀ n, n < 32 → ((nI n &&& 31).toBitVec.smod 32).toNat = n := by decide +kernel
theorem b_shl (n : Nat) (hn : n < 32) (x : Int32) {i : Nat} (hi : i < 32) : bt (x <<< (nI n &&& 31)) i = (decide (n ≤ i) && bt x (i - n)) := by
  unfold bt
  rw [Int32.toBitVec_shiftLeft]
  show (x.toBitVec <<< ((nI n &&& 31).toBitVec.smod 32).toNat).getLsbD i = _
  rw [s_l n hn, BitVec.getLsbD_shiftLeft]
  rcases Nat.lt_or_ge i n with h | h
  · simp [h, Nat.not_le.mpr h]
  · simp [hi, h, Nat.not_lt.mpr h]
theorem b_sshr (n : Nat) (hn : n < 32) (x : Int32) {i : Nat} (hi : i < 32) : bt (x >>> (nI n &&& 31)) i = if n + i < 32 then bt x (n + i) else bt x 31 := by
  unfold bt
  rw [Int32.toBitVec_shiftRight]
  show (x.toBitVec.sshiftRight ((nI n &&& 31).toBitVec.smod 32).toNat).getLsbD i = _
  rw [s_l n hn, BitVec.getLsbD_sshiftRight, BitVec.msb_eq_getLsbD_last]
  simp [hi]
theorem bb_nz (x : Int32) : (¬ x = 0) ↔ ∃ i, bt x i = true := by
  constructor
  · intro h
    refine Classical.byContradiction fun hn => h (b_ext fun i _ => ?_)
    rw [b_0]
    exact Bool.eq_false_iff.mpr fun q => hn ⟨i, q⟩
  · intro ⟨i, q⟩ e
    rw [e, b_0] at q
    exact absurd q (by decide)
theorem bb_z (x : Int32) : x = 0 ↔ ∀ i, ¬ bt x i = true := by
  constructor
  · intro e i q
    rw [e, b_0] at q
    exact absurd q (by decide)
  · intro h
    refine b_ext fun i _ => ?_
    rw [b_0]
    exact Bool.eq_false_iff.mpr (h i)
theorem bb_l32 {x : Int32} {i : Nat} (h : bt x i = true) : i < 32 := by
  refine Classical.byContradiction fun hn => ?_
  rw [b_big (by omega)] at h
  exact absurd h (by decide)
theorem bb_1 (i : Nat) : bt 1 i = decide (i = 0) := by
  rcases Nat.lt_or_ge i 32 with h | h
  · exact (by decide +kernel : ∀ i, i < 32 → bt 1 i = decide (i = 0)) i h
  · rw [b_big h, decide_eq_false (by omega)]
theorem bb_con (x : Int32) {s : Nat} (hs : s < 32) : ((x >>> (nI s &&& 31)) &&& 1) = 0 ↔ ¬ bt x s = true := by
  have e0 : bt ((x >>> (nI s &&& 31)) &&& 1) 0 = bt x s := by
    rw [b_and, b_sshr s hs x (by decide), bb_1, if_pos (by omega)]
    simp
  constructor
  · intro h q
    rw [h, b_0, q] at e0
    exact absurd e0 (by decide)
  · intro h
    refine b_ext fun i _ => ?_
    rw [b_0]
    by_cases hi : i = 0
    · rw [hi, e0]
      exact Bool.eq_false_iff.mpr h
    · rw [b_and, bb_1, decide_eq_false hi, Bool.and_false]
theorem bb_shl {s : Nat} (hs : s < 32) (i : Nat) : bt ((1 : Int32) <<< (nI s &&& 31)) i = decide (i = s) := by
  rcases Nat.lt_or_ge i 32 with h | h
  · rw [b_shl s hs _ h, bb_1]
    by_cases e : i = s
    · subst e
      simp
    · rw [decide_eq_false e]
      by_cases e2 : s ≤ i
      · rw [decide_eq_false (by omega : ¬ i - s = 0), Bool.and_false]
      · rw [decide_eq_false e2, Bool.false_and]
  · rw [b_big h, decide_eq_false (by omega)]
theorem bb_not (x : Int32) {i : Nat} (hi : i < 32) : bt (x ^^^ (-1)) i = !bt x i := by
  rw [b_xor, b_m1 i hi]
  simp
theorem bb_all : ∀ n, n < 13 → ∀ i, i < 32 → bt (((1 : Int32) <<< (nI n &&& 31)) - 1) i = decide (i < n) := by decide +kernel
theorem bb_allS {n : Nat} (hn : n < 13) (i : Nat) : bt (((1 : Int32) <<< (nI n &&& 31)) - 1) i = true ↔ i < n := by
  rcases Nat.lt_or_ge i 32 with h | h
  · rw [bb_all n hn i h, decide_eq_true_eq]
  · rw [b_big h]
    constructor
    · intro q
      exact absurd q (by decide)
    · intro q
      omega
theorem bb_ins (x : Int32) {s : Nat} (hs : s < 32) (i : Nat) : bt (x ||| ((1 : Int32) <<< (nI s &&& 31))) i = true ↔ bt x i = true ∨ i = s := by
  rw [b_or, bb_shl hs, Bool.or_eq_true, decide_eq_true_eq]
theorem bb_del (x : Int32) {s : Nat} (hs : s < 32) (i : Nat) : bt (x &&& (((1 : Int32) <<< (nI s &&& 31)) ^^^ (-1))) i = true ↔ bt x i = true ∧ i ≠ s := by
  rw [b_and, Bool.and_eq_true]
  constructor
  · intro ⟨p, q⟩
    refine ⟨p, ?_⟩
    rw [bb_not _ (bb_l32 p), bb_shl hs] at q
    intro e
    rw [decide_eq_true e] at q
    exact absurd q (by decide)
  · intro ⟨p, q⟩
    refine ⟨p, ?_⟩
    rw [bb_not _ (bb_l32 p), bb_shl hs, decide_eq_false q]
    rfl
theorem bb_andS (x y : Int32) (i : Nat) : bt (x &&& y) i = true ↔ bt x i = true ∧ bt y i = true := by rw [b_and, Bool.and_eq_true]
theorem bb_orS (x y : Int32) (i : Nat) : bt (x ||| y) i = true ↔ bt x i = true ∨ bt y i = true := by rw [b_or, Bool.or_eq_true]
theorem bb_diffS (x y : Int32) (i : Nat) : bt (x &&& (y ^^^ (-1))) i = true ↔ bt x i = true ∧ ¬ bt y i = true := by
  rw [b_and, Bool.and_eq_true]
  constructor
  · intro ⟨p, q⟩
    rw [bb_not _ (bb_l32 p)] at q
    refine ⟨p, fun e => ?_⟩
    rw [e] at q
    exact absurd q (by decide)
  · intro ⟨p, q⟩
    rw [bb_not _ (bb_l32 p), Bool.eq_false_iff.mpr q]
    exact ⟨p, rfl⟩
