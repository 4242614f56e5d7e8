/-! a long as a set of bits -/
def cb_bit (w : Int64) (i : Nat) : Bool := w.toBitVec.getLsbD i
theorem cb_ext {x y : Int64} (h : ∀ i, i < 64 → cb_bit x i = cb_bit y i) : x = y := Int64.toBitVec_inj.mp (BitVec.eq_of_getLsbD_eq (fun i hi => h i hi))
theorem cb_or (x y : Int64) (i : Nat) : cb_bit (x ||| y) i = (cb_bit x i || cb_bit y i) := by unfold cb_bit; rw [Int64.toBitVec_or, BitVec.getLsbD_or]
theorem cb_and (x y : Int64) (i : Nat) : cb_bit (x &&& y) i = (cb_bit x i && cb_bit y i) := by unfold cb_bit; rw [Int64.toBitVec_and, BitVec.getLsbD_and]
theorem cb_big {x : Int64} {i : Nat} (h : 64 ≤ i) : cb_bit x i = false := BitVec.getLsbD_of_ge _ _ h
theorem cb_0 (i : Nat) : cb_bit 0 i = false := BitVec.getLsbD_zero
theorem cb_not (x : Int64) {i : Nat} (hi : i < 64) : cb_bit (x ^^^ (-1)) i = !cb_bit x i := by
  have ha : (-1 : Int64).toBitVec = BitVec.allOnes 64 := by decide
  unfold cb_bit
  rw [Int64.toBitVec_xor, ha, BitVec.getLsbD_xor, BitVec.getLsbD_allOnes, decide_eq_true hi]
  cases x.toBitVec.getLsbD i <;> rfl
theorem cb_andnot (x y : Int64) (i : Nat) : cb_bit (x &&& (y ^^^ (-1))) i = (cb_bit x i && !cb_bit y i) := by
  rcases Nat.lt_or_ge i 64 with h | h
  · rw [cb_and, cb_not _ h]
  · rw [cb_and, cb_big (x := x) h, Bool.false_and, Bool.false_and]
theorem cb_one_bv : ∀ l, l < 64 → ((1 : Int64) <<< ((nI l).toInt64 &&& 63)).toBitVec = BitVec.twoPow 64 l := by decide +kernel
theorem cb_one {l : Nat} (hl : l < 64) (i : Nat) : cb_bit ((1 : Int64) <<< ((nI l).toInt64 &&& 63)) i = decide (i = l) := by
  unfold cb_bit
  rw [cb_one_bv l hl, BitVec.getLsbD_twoPow, decide_eq_true hl, Bool.true_and]
  exact decide_eq_decide.mpr ⟨Eq.symm, Eq.symm⟩
theorem cb_1s : ∀ i, i < 64 → cb_bit 1 (i + 1) = false := by decide +kernel
theorem cb_low (y : Int64) : y &&& 1 = if cb_bit y 0 = true then 1 else 0 := by
  apply cb_ext
  intro i hi
  rw [cb_and]
  have h1 : cb_bit 1 0 = true := by decide
  cases i with
  | zero =>
    by_cases h : cb_bit y 0 = true
    · rw [if_pos h, h, h1]; rfl
    · rw [if_neg h, cb_0]
      have h' : cb_bit y 0 = false := by cases e : cb_bit y 0 <;> simp_all
      rw [h']; rfl
  | succ i =>
    rw [cb_1s i (by omega), Bool.and_false]
    by_cases h : cb_bit y 0 = true
    · rw [if_pos h, cb_1s i (by omega)]
    · rw [if_neg h, cb_0]
theorem cb_sl : ∀ n, n < 64 → (((nI n).toInt64 &&& 63).toBitVec.smod 64).toNat = n := by decide +kernel
theorem cb_su : ∀ n, n < 64 → (((nI n).toInt64.toUInt64 &&& Int64.toUInt64 63).toBitVec % 64).toNat = n := by decide +kernel
theorem cb_sshr {n : Nat} (hn : n < 64) (x : Int64) : (x >>> ((nI n).toInt64 &&& 63)) &&& 1 = if cb_bit x n = true then 1 else 0 := by
  have e : cb_bit (x >>> ((nI n).toInt64 &&& 63)) 0 = cb_bit x n := by
    unfold cb_bit
    rw [Int64.toBitVec_shiftRight]
    show (x.toBitVec.sshiftRight (((nI n).toInt64 &&& 63).toBitVec.smod 64).toNat).getLsbD 0 = _
    rw [cb_sl n hn, BitVec.getLsbD_sshiftRight]
    simp [hn]
  rw [cb_low, e]
theorem cb_ushr {n : Nat} (hn : n < 64) (x : Int64) : (x.toUInt64 >>> ((nI n).toInt64.toUInt64 &&& Int64.toUInt64 63)).toInt64 &&& 1 = if cb_bit x n = true then 1 else 0 := by
  have e : cb_bit (x.toUInt64 >>> ((nI n).toInt64.toUInt64 &&& Int64.toUInt64 63)).toInt64 0 = cb_bit x n := by
    show (x.toUInt64 >>> ((nI n).toInt64.toUInt64 &&& Int64.toUInt64 63)).toBitVec.getLsbD 0 = x.toUInt64.toBitVec.getLsbD n
    rw [UInt64.toBitVec_shiftRight]
    show (x.toUInt64.toBitVec >>> (((nI n).toInt64.toUInt64 &&& Int64.toUInt64 63).toBitVec % 64).toNat).getLsbD 0 = _
    rw [cb_su n hn, BitVec.getLsbD_ushiftRight, Nat.add_zero]
  rw [cb_low, e]
theorem cb_b0 (b : Bool) : ((if b = true then (1 : Int64) else 0) = 0) ↔ b = false := by cases b <;> decide
theorem cb_b1 (b : Bool) : ((if b = true then (1 : Int64) else 0) = 1) ↔ b = true := by cases b <;> decide
/-- the lowest bit of a set -/
theorem cb_lowest {w : Int64} {c : Nat} (h1 : cb_bit w c = true) (h0 : ∀ j, j < c → cb_bit w j = false) (i : Nat) : cb_bit (w &&& (-w)) i = decide (i = c) := by
  rw [cb_and]
  have hn : cb_bit (-w) i = (cb_bit w i ^^ (decide (i < 64) && decide (∃ j, j < i ∧ cb_bit w j = true))) := by
    unfold cb_bit
    rw [Int64.toBitVec_neg, BitVec.getLsbD_neg]
  rw [hn]
  rcases Nat.lt_trichotomy i c with h | h | h
  · rw [h0 i h, Bool.false_and, decide_eq_false (by omega)]
  · subst h
    have z : ¬ ∃ j, j < i ∧ cb_bit w j = true := by
      rintro ⟨j, hj, e⟩
      rw [h0 j hj] at e
      cases e
    rw [h1, decide_eq_false z, Bool.and_false]
    simp
  · have z : ∃ j, j < i ∧ cb_bit w j = true := ⟨c, h, h1⟩
    rw [decide_eq_true z, decide_eq_false (by omega : ¬ i = c), Bool.and_true]
    rcases Nat.lt_or_ge i 64 with y | y
    · rw [decide_eq_true y]; cases cb_bit w i <;> rfl
    · rw [cb_big y]; rfl
theorem cb_zero {w : Int64} : w = 0 ↔ ∀ i, i < 64 → cb_bit w i = false := by
  constructor
  · rintro rfl i _
    exact cb_0 i
  · intro h
    apply cb_ext
    intro i hi
    rw [h i hi, cb_0]
