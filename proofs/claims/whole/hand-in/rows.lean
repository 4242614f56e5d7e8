section
/-! a long as a set of bits -/
def cb_bit (w : Int64) (i : Nat) : Bool := w.toBitVec.getLsbD i
theorem cb_ext {x y : Int64} (h : ∀ i, i < 64 → cb_bit x i = cb_bit y i) : x = y := Int64.toBitVec_inj.mp (BitVec.eq_of_getLsbD_eq (fun i hi => h i hi))
theorem cb_or (x y : Int64) (i : Nat) : cb_bit (x ||| y) i = (cb_bit x i || cb_bit y i) := by unfold cb_bit; rw [Int64.toBitVec_or, BitVec.getLsbD_or]
theorem cb_and (x y : Int64) (i : Nat) : cb_bit (x &&& y) i = (cb_bit x i && cb_bit y i) := by unfold cb_bit; rw [Int64.toBitVec_and, BitVec.getLsbD_and]
theorem cb_big {x : Int64} {i : Nat} (h : 64 ≤ i) : cb_bit x i = false := BitVec.getLsbD_of_ge _ _ h
theorem cb_0 (i : Nat) : cb_bit 0 i = false := BitVec.getLsbD_zero
theorem cb_not (x : Int64) {i : Nat} (hi : i < 64) : cb_bit (x ^^^ (-1)) i = !cb_bit x i := by
  have ha : (-1 : Int64).toBitVec = BitVec.allOnes 64 := by decide
  unfold cb_bit
  rw [Int64.toBitVec_xor, ha, BitVec.getLsbD_xor, BitVec.getLsbD_allOnes, decide_eq_true hi]
  cases x.toBitVec.getLsbD i <;> rfl
theorem cb_andnot (x y : Int64) (i : Nat) : cb_bit (x &&& (y ^^^ (-1))) i = (cb_bit x i && !cb_bit y i) := by
  rcases Nat.lt_or_ge i 64 with h | h
  · rw [cb_and, cb_not _ h]
  · rw [cb_and, cb_big (x := x) h, Bool.false_and, Bool.false_and]
theorem cb_one_bv : ∀ l, l < 64 → ((1 : Int64) <<< ((nI l).toInt64 &&& 63)).toBitVec = BitVec.twoPow 64 l := by decide +kernel
theorem cb_one {l : Nat} (hl : l < 64) (i : Nat) : cb_bit ((1 : Int64) <<< ((nI l).toInt64 &&& 63)) i = decide (i = l) := by
  unfold cb_bit
  rw [cb_one_bv l hl, BitVec.getLsbD_twoPow, decide_eq_true hl, Bool.true_and]
  exact decide_eq_decide.mpr ⟨Eq.symm, Eq.symm⟩
theorem cb_1s : ∀ i, i < 64 → cb_bit 1 (i + 1) = false := by decide +kernel
theorem cb_low (y : Int64) : y &&& 1 = if cb_bit y 0 = true then 1 else 0 := by
  apply cb_ext
  intro i hi
  rw [cb_and]
  have h1 : cb_bit 1 0 = true := by decide
  cases i with
  | zero =>
    by_cases h : cb_bit y 0 = true
    · rw [if_pos h, h, h1]; rfl
    · rw [if_neg h, cb_0]
      have h' : cb_bit y 0 = false := by cases e : cb_bit y 0 <;> simp_all
      rw [h']; rfl
  | succ i =>
    rw [cb_1s i (by omega), Bool.and_false]
    by_cases h : cb_bit y 0 = true
    · rw [if_pos h, cb_1s i (by omega)]
    · rw [if_neg h, cb_0]
theorem cb_sl : ∀ n, n < 64 → (((nI n).toInt64 &&& 63).toBitVec.smod 64).toNat = n := by decide +kernel
theorem cb_su : ∀ n, n < 64 → (((nI n).toInt64.toUInt64 &&& Int64.toUInt64 63).toBitVec % 64).toNat = n := by decide +kernel
theorem cb_sshr {n : Nat} (hn : n < 64) (x : Int64) : (x >>> ((nI n).toInt64 &&& 63)) &&& 1 = if cb_bit x n = true then 1 else 0 := by
  have e : cb_bit (x >>> ((nI n).toInt64 &&& 63)) 0 = cb_bit x n := by
    unfold cb_bit
    rw [Int64.toBitVec_shiftRight]
    show (x.toBitVec.sshiftRight (((nI n).toInt64 &&& 63).toBitVec.smod 64).toNat).getLsbD 0 = _
    rw [cb_sl n hn, BitVec.getLsbD_sshiftRight]
    simp [hn]
  rw [cb_low, e]
theorem cb_ushr {n : Nat} (hn : n < 64) (x : Int64) : (x.toUInt64 >>> ((nI n).toInt64.toUInt64 &&& Int64.toUInt64 63)).toInt64 &&& 1 = if cb_bit x n = true then 1 else 0 := by
  have e : cb_bit (x.toUInt64 >>> ((nI n).toInt64.toUInt64 &&& Int64.toUInt64 63)).toInt64 0 = cb_bit x n := by
    show (x.toUInt64 >>> ((nI n).toInt64.toUInt64 &&& Int64.toUInt64 63)).toBitVec.getLsbD 0 = x.toUInt64.toBitVec.getLsbD n
    rw [UInt64.toBitVec_shiftRight]
    show (x.toUInt64.toBitVec >>> (((nI n).toInt64.toUInt64 &&& Int64.toUInt64 63).toBitVec % 64).toNat).getLsbD 0 = _
    rw [cb_su n hn, BitVec.getLsbD_ushiftRight, Nat.add_zero]
  rw [cb_low, e]
theorem cb_b0 (b : Bool) : ((if b = true then (1 : Int64) else 0) = 0) ↔ b = false := by cases b <;> decide
theorem cb_b1 (b : Bool) : ((if b = true then (1 : Int64) else 0) = 1) ↔ b = true := by cases b <;> decide
/-- the lowest bit of a set -/
theorem cb_lowest {w : Int64} {c : Nat} (h1 : cb_bit w c = true) (h0 : ∀ j, j < c → cb_bit w j = false) (i : Nat) : cb_bit (w &&& (-w)) i = decide (i = c) := by
  rw [cb_and]
  have hn : cb_bit (-w) i = (cb_bit w i ^^ (decide (i < 64) && decide (∃ j, j < i ∧ cb_bit w j = true))) := by
    unfold cb_bit
    rw [Int64.toBitVec_neg, BitVec.getLsbD_neg]
  rw [hn]
  rcases Nat.lt_trichotomy i c with h | h | h
  · rw [h0 i h, Bool.false_and, decide_eq_false (by omega)]
  · subst h
    have z : ¬ ∃ j, j < i ∧ cb_bit w j = true := by
      rintro ⟨j, hj, e⟩
      rw [h0 j hj] at e
      cases e
    rw [h1, decide_eq_false z, Bool.and_false]
    simp
  · have z : ∃ j, j < i ∧ cb_bit w j = true := ⟨c, h, h1⟩
    rw [decide_eq_true z, decide_eq_false (by omega : ¬ i = c), Bool.and_true]
    rcases Nat.lt_or_ge i 64 with y | y
    · rw [decide_eq_true y]; cases cb_bit w i <;> rfl
    · rw [cb_big y]; rfl
theorem cb_zero {w : Int64} : w = 0 ↔ ∀ i, i < 64 → cb_bit w i = false := by
  constructor
  · rintro rfl i _
    exact cb_0 i
  · intro h
    apply cb_ext
    intro i hi
    rw [h i hi, cb_0]
end
section
/-! searches, counts, sums, unions over 0 .. n - 1 -/
def cb_any (p : Nat → Bool) : Nat → Bool
  | 0 => false
  | n + 1 => cb_any p n || p n
def cb_cnt (p : Nat → Bool) : Nat → Nat
  | 0 => 0
  | n + 1 => if p n = true then cb_cnt p n + 1 else cb_cnt p n
def cb_sum (p : Nat → Bool) (f : Nat → Int32) : Nat → Int32
  | 0 => 0
  | n + 1 => if p n = true then cb_sum p f n + f n else cb_sum p f n
def cb_gat (p : Nat → Bool) (f : Nat → Int64) : Nat → Int64
  | 0 => 0
  | n + 1 => if p n = true then cb_gat p f n ||| f n else cb_gat p f n
/-- the value of f at the first of i, i + 1, .. , i + k - 1 with p, else 0 -/
def cb_fst (p : Nat → Bool) (f : Nat → Int32) : Nat → Nat → Int32
  | 0, _ => 0
  | k + 1, i => if p i = true then f i else cb_fst p f k (i + 1)
theorem cb_any_t {p : Nat → Bool} : ∀ {n : Nat}, cb_any p n = true ↔ ∃ i, i < n ∧ p i = true := by
  intro n
  induction n with
  | zero => exact ⟨(fun h => nomatch h), (fun ⟨i, h, _⟩ => absurd h (Nat.not_lt_zero i))⟩
  | succ n ih =>
    unfold cb_any
    rw [Bool.or_eq_true, ih]
    constructor
    · rintro (⟨i, h, e⟩ | e)
      · exact ⟨i, by omega, e⟩
      · exact ⟨n, by omega, e⟩
    · rintro ⟨i, h, e⟩
      rcases Nat.lt_or_ge i n with z | z
      · exact Or.inl ⟨i, z, e⟩
      · have : i = n := by omega
        subst this
        exact Or.inr e
theorem cb_any_f {p : Nat → Bool} {n : Nat} : cb_any p n = false ↔ ∀ i, i < n → p i = false := by
  constructor
  · intro h i hi
    cases e : p i
    · rfl
    · rw [cb_any_t.mpr ⟨i, hi, e⟩] at h
      cases h
  · intro h
    cases e : cb_any p n
    · rfl
    · obtain ⟨i, hi, z⟩ := cb_any_t.mp e
      rw [h i hi] at z
      cases z
theorem cb_any_eq {p q : Nat → Bool} {m n : Nat} (h : (∃ i, i < m ∧ p i = true) ↔ (∃ i, i < n ∧ q i = true)) : cb_any p m = cb_any q n := by
  cases e : cb_any p m <;> cases e' : cb_any q n
  · rfl
  · rw [cb_any_t.mpr (h.mpr (cb_any_t.mp e'))] at e; cases e
  · rw [cb_any_t.mpr (h.mp (cb_any_t.mp e))] at e'; cases e'
  · rfl
theorem cb_cnt_le (p : Nat → Bool) : ∀ n, cb_cnt p n ≤ n := by
  intro n
  induction n with
  | zero => exact Nat.le_refl 0
  | succ n ih => unfold cb_cnt; split <;> omega
theorem cb_cnt_eq {p q : Nat → Bool} : ∀ {n : Nat}, (∀ i, i < n → p i = q i) → cb_cnt p n = cb_cnt q n := by
  intro n
  induction n with
  | zero => intro _; rfl
  | succ n ih =>
    intro h
    unfold cb_cnt
    rw [h n (by omega), ih (fun i hi => h i (by omega))]
theorem cb_cnt_cut {p : Nat → Bool} {m : Nat} : ∀ {n : Nat}, m ≤ n → (∀ i, m ≤ i → i < n → p i = false) → cb_cnt p n = cb_cnt p m := by
  intro n
  induction n with
  | zero => intro h _; have : m = 0 := by omega
            subst this; rfl
  | succ n ih =>
    intro h hf
    rcases Nat.lt_or_ge n m with z | z
    · have : m = n + 1 := by omega
      subst this; rfl
    · have e : p n = false := hf n z (by omega)
      show (if p n = true then cb_cnt p n + 1 else cb_cnt p n) = _
      rw [e, if_neg (by decide)]
      exact ih z (fun i h1 h2 => hf i h1 (by omega))
theorem cb_sum_eq {p q : Nat → Bool} {f : Nat → Int32} : ∀ {n : Nat}, (∀ i, i < n → p i = q i) → cb_sum p f n = cb_sum q f n := by
  intro n
  induction n with
  | zero => intro _; rfl
  | succ n ih =>
    intro h
    unfold cb_sum
    rw [h n (by omega), ih (fun i hi => h i (by omega))]
theorem cb_sum_cut {p : Nat → Bool} {f : Nat → Int32} {m : Nat} : ∀ {n : Nat}, m ≤ n → (∀ i, m ≤ i → i < n → p i = false) → cb_sum p f n = cb_sum p f m := by
  intro n
  induction n with
  | zero => intro h _; have : m = 0 := by omega
            subst this; rfl
  | succ n ih =>
    intro h hf
    rcases Nat.lt_or_ge n m with z | z
    · have : m = n + 1 := by omega
      subst this; rfl
    · have e : p n = false := hf n z (by omega)
      show (if p n = true then cb_sum p f n + f n else cb_sum p f n) = _
      rw [e, if_neg (by decide)]
      exact ih z (fun i h1 h2 => hf i h1 (by omega))
theorem cb_cnt_add {p q r : Nat → Bool} : ∀ {n : Nat}, (∀ i, i < n → (r i = true ↔ (p i = true ∨ q i = true)) ∧ ¬ (p i = true ∧ q i = true)) → cb_cnt r n = cb_cnt p n + cb_cnt q n := by
  intro n
  induction n with
  | zero => intro _; rfl
  | succ n ih =>
    intro h
    have hn := h n (by omega)
    have hi := ih (fun i hi => h i (by omega))
    unfold cb_cnt
    cases e1 : p n <;> cases e2 : q n <;> cases e3 : r n <;> simp_all <;> omega
theorem cb_cnt_mono {p q : Nat → Bool} : ∀ {n : Nat}, (∀ i, i < n → p i = true → q i = true) → cb_cnt p n ≤ cb_cnt q n := by
  intro n
  induction n with
  | zero => intro _; exact Nat.le_refl 0
  | succ n ih =>
    intro h
    have hn := h n (by omega)
    have hi := ih (fun i hi => h i (by omega))
    unfold cb_cnt
    cases e1 : p n <;> cases e2 : q n <;> simp_all <;> omega
theorem cb_cnt_find {p : Nat → Bool} {t : Nat} : ∀ {n : Nat}, t < cb_cnt p n → ∃ i, i < n ∧ p i = true ∧ cb_cnt p i = t := by
  intro n
  induction n with
  | zero => intro h; exact absurd h (Nat.not_lt_zero t)
  | succ n ih =>
    intro h
    rcases Nat.lt_or_ge t (cb_cnt p n) with z | z
    · obtain ⟨i, h1, h2, h3⟩ := ih z
      exact ⟨i, by omega, h2, h3⟩
    · unfold cb_cnt at h
      by_cases e : p n = true
      · rw [if_pos e] at h
        exact ⟨n, by omega, e, by omega⟩
      · rw [if_neg e] at h
        omega
theorem cb_cnt_lim {p : Nat → Bool} {i n : Nat} (h : i ≤ n) : cb_cnt (fun j => p j && decide (j < i)) n = cb_cnt p i := by
  rw [cb_cnt_cut h (fun j h1 _ => by show (p j && decide (j < i)) = false; rw [decide_eq_false (by omega), Bool.and_false])]
  exact cb_cnt_eq (fun j hj => by show (p j && decide (j < i)) = p j; rw [decide_eq_true hj, Bool.and_true])
theorem cb_cnt_pos {p : Nat → Bool} {i n : Nat} (h : i < n) (e : p i = true) : cb_cnt p i < cb_cnt p n := by
  have h1 : cb_cnt p (i + 1) = cb_cnt p i + 1 := by
    show (if p i = true then cb_cnt p i + 1 else cb_cnt p i) = _
    rw [if_pos e]
  have h2 : cb_cnt p (i + 1) ≤ cb_cnt p n := by
    rw [← cb_cnt_lim (p := p) (show i + 1 ≤ n by omega)]
    exact cb_cnt_mono (fun j _ hj => by
      have hj' : (p j && decide (j < i + 1)) = true := hj
      rw [Bool.and_eq_true] at hj'
      exact hj'.1)
  omega
theorem cb_gat_bit (p : Nat → Bool) (f : Nat → Int64) (j : Nat) : ∀ n, cb_bit (cb_gat p f n) j = cb_any (fun i => p i && cb_bit (f i) j) n := by
  intro n
  induction n with
  | zero => exact cb_0 j
  | succ n ih =>
    unfold cb_gat cb_any
    by_cases e : p n = true
    · rw [if_pos e, cb_or, ih, e, Bool.true_and]
    · have e' : p n = false := by cases z : p n <;> simp_all
      rw [if_neg e, ih, e', Bool.false_and, Bool.or_false]
/-- the union of single bits -/
theorem cb_gat_one (p : Nat → Bool) {n : Nat} (hn : n ≤ 64) (j : Nat) : cb_bit (cb_gat p (fun i => (1 : Int64) <<< ((nI i).toInt64 &&& 63)) n) j = (decide (j < n) && p j) := by
  rw [cb_gat_bit]
  cases e : (decide (j < n) && p j)
  · rw [cb_any_f]
    intro i hi
    show (p i && cb_bit ((1 : Int64) <<< ((nI i).toInt64 &&& 63)) j) = false
    rw [cb_one (by omega)]
    by_cases z : j = i
    · subst z
      rw [decide_eq_true hi, Bool.true_and] at e
      rw [e, Bool.false_and]
    · rw [decide_eq_false z, Bool.and_false]
  · rw [Bool.and_eq_true, decide_eq_true_eq] at e
    rw [cb_any_t]
    refine ⟨j, e.1, ?_⟩
    show (p j && cb_bit ((1 : Int64) <<< ((nI j).toInt64 &&& 63)) j) = true
    rw [cb_one (by omega), e.2, decide_eq_true rfl, Bool.true_and]
theorem cb_fst_spec (p : Nat → Bool) (f : Nat → Int32) : ∀ k i, (∃ j, i ≤ j ∧ j < i + k ∧ p j = true ∧ cb_fst p f k i = f j) ∨ ((∀ j, i ≤ j → j < i + k → p j = false) ∧ cb_fst p f k i = 0) := by
  intro k
  induction k with
  | zero => intro i; exact Or.inr ⟨fun j h1 h2 => by omega, rfl⟩
  | succ k ih =>
    intro i
    unfold cb_fst
    by_cases e : p i = true
    · rw [if_pos e]
      exact Or.inl ⟨i, Nat.le_refl i, by omega, e, rfl⟩
    · rw [if_neg e]
      have e' : p i = false := by cases z : p i <;> simp_all
      rcases ih (i + 1) with ⟨j, h1, h2, h3, h4⟩ | ⟨h1, h2⟩
      · exact Or.inl ⟨j, by omega, by omega, h3, h4⟩
      · refine Or.inr ⟨fun j a b => ?_, h2⟩
        rcases Nat.lt_or_ge i j with z | z
        · exact h1 j z (by omega)
        · have : j = i := by omega
          rw [this]; exact e'
/-- two searches that agree -/
theorem cb_fst_eq {p q : Nat → Bool} {f : Nat → Int32} {m n : Nat} (h1 : ∀ i, i < m → p i = true → ∃ j, j < n ∧ q j = true) (h2 : ∀ i, i < n → q i = true → ∃ j, j < m ∧ p j = true) (h3 : ∀ i j, i < m → p i = true → j < n → q j = true → f i = f j) : cb_fst p f m 0 = cb_fst q f n 0 := by
  rcases cb_fst_spec p f m 0 with ⟨i, _, b, c, d⟩ | ⟨c, d⟩ <;> rcases cb_fst_spec q f n 0 with ⟨j, _, b', c', d'⟩ | ⟨c', d'⟩
  · rw [d, d']
    exact h3 i j (by omega) c (by omega) c'
  · obtain ⟨j, hj, z⟩ := h1 i (by omega) c
    rw [c' j (by omega) (by omega)] at z
    cases z
  · obtain ⟨i, hi, z⟩ := h2 j (by omega) c'
    rw [c i (by omega) (by omega)] at z
    cases z
  · rw [d, d']
end
section
/-! places in the ascending order: counts of smaller values, and the search by them -/
def cb_lo (S : Nat → Bool) (d : Nat → Int32) (v : Int32) (n : Nat) : Nat := cb_cnt (fun j => S j && decide (d j < v)) n
def cb_es (S : Nat → Bool) (d : Nat → Int32) (v : Int32) (n : Nat) : Nat := cb_cnt (fun j => S j && decide (d j = v)) n
def cb_hi (S : Nat → Bool) (d : Nat → Int32) (v : Int32) (n : Nat) : Nat := cb_cnt (fun j => S j && (decide (d j < v) || decide (d j = v))) n
def cb_pl (S : Nat → Bool) (d : Nat → Int32) (i n : Nat) : Nat := cb_cnt (fun j => S j && (decide (d j < d i) || (decide (d j = d i) && decide (j < i)))) n
theorem cb_lirr (a : Int32) : ¬ a < a := by
  rw [Int32.lt_iff_toInt_lt]
  omega
theorem cb_hi_eq (S : Nat → Bool) (d : Nat → Int32) (v : Int32) (n : Nat) : cb_hi S d v n = cb_lo S d v n + cb_es S d v n := by
  unfold cb_hi cb_lo cb_es
  apply cb_cnt_add
  intro i hi
  constructor
  · simp only [Bool.and_eq_true, Bool.or_eq_true, decide_eq_true_eq]
    constructor
    · rintro ⟨a, b | b⟩
      · exact Or.inl ⟨a, b⟩
      · exact Or.inr ⟨a, b⟩
    · rintro (⟨a, b⟩ | ⟨a, b⟩)
      · exact ⟨a, Or.inl b⟩
      · exact ⟨a, Or.inr b⟩
  · simp only [Bool.and_eq_true, decide_eq_true_eq]
    rintro ⟨⟨_, b⟩, ⟨_, c⟩⟩
    rw [c] at b
    exact cb_lirr _ b
theorem cb_pl_eq (S : Nat → Bool) (d : Nat → Int32) {i n : Nat} (h : i ≤ n) : cb_pl S d i n = cb_lo S d (d i) n + cb_es S d (d i) i := by
  unfold cb_pl cb_lo cb_es
  rw [← cb_cnt_lim (p := fun j => S j && decide (d j = d i)) h]
  apply cb_cnt_add
  intro j hj
  constructor
  · simp only [Bool.and_eq_true, Bool.or_eq_true, decide_eq_true_eq]
    constructor
    · rintro ⟨a, b | ⟨b, c⟩⟩
      · exact Or.inl ⟨a, b⟩
      · exact Or.inr ⟨⟨a, b⟩, c⟩
    · rintro (⟨a, b⟩ | ⟨⟨a, b⟩, c⟩)
      · exact ⟨a, Or.inl b⟩
      · exact ⟨a, Or.inr ⟨b, c⟩⟩
  · simp only [Bool.and_eq_true, decide_eq_true_eq]
    rintro ⟨⟨_, b⟩, ⟨⟨_, c⟩, _⟩⟩
    rw [c] at b
    exact cb_lirr _ b
theorem cb_value {S : Nat → Bool} {d : Nat → Int32} {m n : Nat} (hm : m ≤ n) (hn : n ≤ 48) (hS : ∀ i, m ≤ i → S i = false) (place : Int32) : cb_fst (fun i => S i && decide (nI (cb_pl S d i n) = place)) d n 0 = cb_fst (fun c => S c && (decide (nI (cb_lo S d (d c) m) ≤ place) && decide (place < nI (cb_hi S d (d c) m)))) d m 0 := by
  have hlt : ∀ i, S i = true → i < m := by
    intro i h
    rcases Nat.lt_or_ge i m with z | z
    · exact z
    · rw [hS i z] at h
      cases h
  have hbl : ∀ v, cb_lo S d v m < 2 ^ 31 := fun v => by
    have : cb_lo S d v m ≤ m := cb_cnt_le _ m
    omega
  have hbh : ∀ v, cb_hi S d v m < 2 ^ 31 := fun v => by
    have : cb_hi S d v m ≤ m := cb_cnt_le _ m
    omega
  have hpl : ∀ i, i < m → cb_pl S d i n = cb_lo S d (d i) m + cb_es S d (d i) i := by
    intro i hi
    have e : cb_pl S d i n = cb_pl S d i m := cb_cnt_cut hm (fun j h1 _ => by
      show (S j && _) = false
      rw [hS j h1, Bool.false_and])
    rw [e, cb_pl_eq S d (by omega)]
  have hx : ∀ i, i < n → (S i && decide (nI (cb_pl S d i n) = place)) = true → i < m ∧ S i = true ∧ nI (cb_lo S d (d i) m) ≤ place ∧ place < nI (cb_hi S d (d i) m) := by
    intro i hi h
    rw [Bool.and_eq_true, decide_eq_true_eq] at h
    obtain ⟨h1, h2⟩ := h
    have him := hlt i h1
    have h3 := hpl i him
    have h4 : cb_es S d (d i) i < cb_es S d (d i) m := cb_cnt_pos him (by
      show (S i && decide (d i = d i)) = true
      rw [h1, decide_eq_true rfl]
      rfl)
    have h5 := cb_hi_eq S d (d i) m
    have h6 := hbh (d i)
    refine ⟨him, h1, ?_, ?_⟩
    · rw [← h2, nI_leI (by omega) (by omega)]; omega
    · rw [← h2, nI_ltI (by omega) (by omega)]; omega
  have hu : ∀ v w : Int32, nI (cb_lo S d w m) ≤ place → place < nI (cb_hi S d v m) → ¬ v < w := by
    intro v w h1 h2 hvw
    have h3 : cb_hi S d v m ≤ cb_lo S d w m := cb_cnt_mono (fun j _ hj => by
      have hj' : (S j && (decide (d j < v) || decide (d j = v))) = true := hj
      show (S j && decide (d j < w)) = true
      simp only [Bool.and_eq_true, Bool.or_eq_true, decide_eq_true_eq] at hj' ⊢
      refine ⟨hj'.1, ?_⟩
      rcases hj'.2 with z | z
      · exact Int32.lt_trans z hvw
      · rw [z]; exact hvw)
    have h4 : nI (cb_hi S d v m) ≤ nI (cb_lo S d w m) := nI_le h3 (hbl w)
    exact cb_lirr place (Int32.lt_of_lt_of_le h2 (Int32.le_trans h4 h1))
  apply cb_fst_eq
  · intro i hi h
    obtain ⟨a, b, c, e⟩ := hx i hi h
    refine ⟨i, a, ?_⟩
    show (S i && (decide (nI (cb_lo S d (d i) m) ≤ place) && decide (place < nI (cb_hi S d (d i) m)))) = true
    rw [b, decide_eq_true c, decide_eq_true e]
    rfl
  · intro c hc h
    have h' : (S c && (decide (nI (cb_lo S d (d c) m) ≤ place) && decide (place < nI (cb_hi S d (d c) m)))) = true := h
    simp only [Bool.and_eq_true, decide_eq_true_eq] at h'
    obtain ⟨h1, h2, h3⟩ := h'
    have h0 : ¬ place < 0 := fun z => cb_lirr place (Int32.lt_of_lt_of_le z (Int32.le_trans (nI_pos' (hbl (d c))) h2))
    obtain ⟨t, ht, et⟩ := nI_of h0
    rw [et, nI_leI (hbl _) ht] at h2
    rw [et, nI_ltI ht (hbh _)] at h3
    have h5 := cb_hi_eq S d (d c) m
    obtain ⟨i, hi, hp, hq⟩ := cb_cnt_find (p := fun j => S j && decide (d j = d c)) (t := t - cb_lo S d (d c) m) (n := m) (by
      show _ < cb_es S d (d c) m
      omega)
    have hp' : (S i && decide (d i = d c)) = true := hp
    rw [Bool.and_eq_true, decide_eq_true_eq] at hp'
    have hq' : cb_es S d (d c) i = t - cb_lo S d (d c) m := hq
    refine ⟨i, by omega, ?_⟩
    show (S i && decide (nI (cb_pl S d i n) = place)) = true
    have h6 := hpl i hi
    rw [hp'.2, hq'] at h6
    rw [hp'.1, h6, et, Bool.true_and, decide_eq_true_eq]
    congr 1
    omega
  · intro i c hi h hc h'
    obtain ⟨_, _, a, b⟩ := hx i hi h
    have h2 : (S c && (decide (nI (cb_lo S d (d c) m) ≤ place) && decide (place < nI (cb_hi S d (d c) m)))) = true := h'
    simp only [Bool.and_eq_true, decide_eq_true_eq] at h2
    obtain ⟨_, a', b'⟩ := h2
    exact Int32.le_antisymm (Int32.not_lt.mp (hu _ _ a b')) (Int32.not_lt.mp (hu _ _ a' b))
end
section
/-! what a replica shows, as bits: K what it knows, P the pasts, s the sorts (0 to 4), w the details -/
def cs_kn (K : Int64) (s : Nat → Int32) (t : Int32) (j : Nat) : Bool := cb_bit K j && decide (s j = t)
def cs_kill (K : Int64) (P : Nat → Int64) (s w : Nat → Int32) (c d : Nat) : Bool := (cb_bit K d && cb_bit (P d) c) && ((decide (s d = 4) || ((decide (s c = 0) && decide (s d = 1)) && decide (w d = w c))) || (decide (s c = 2) && decide (s d = 2)))
def cs_st (K : Int64) (P : Nat → Int64) (s w : Nat → Int32) (m c : Nat) : Bool := cb_bit K c && !cb_any (cs_kill K P s w c) m
theorem cb_any_c {p q : Nat → Bool} {n : Nat} (h : ∀ i, i < n → p i = q i) : cb_any p n = cb_any q n :=
  cb_any_eq ⟨fun ⟨i, a, b⟩ => ⟨i, a, by rw [← h i a]; exact b⟩, fun ⟨i, a, b⟩ => ⟨i, a, by rw [h i a]; exact b⟩⟩
theorem cb_any_cut {p : Nat → Bool} {m n : Nat} (hm : m ≤ n) (h : ∀ i, m ≤ i → p i = false) : cb_any p n = cb_any p m :=
  cb_any_eq ⟨fun ⟨i, a, b⟩ => ⟨i, (by
    rcases Nat.lt_or_ge i m with z | z
    · exact z
    · rw [h i z] at b
      cases b), b⟩, fun ⟨i, a, b⟩ => ⟨i, by omega, b⟩⟩
theorem cs_any_zero {W : Int64} {p : Nat → Bool} {m : Nat} (hm : m ≤ 64) (h : ∀ j, cb_bit W j = p j) (hp : ∀ j, m ≤ j → p j = false) : W = 0 ↔ cb_any p m = false := by
  rw [cb_zero, cb_any_f]
  constructor
  · intro z i hi
    rw [← h i]
    exact z i (by omega)
  · intro z i hi
    rw [h i]
    rcases Nat.lt_or_ge i m with y | y
    · exact z i y
    · exact hp i y
theorem cs_kn_f {K : Int64} {s : Nat → Int32} {t : Int32} {m : Nat} (hK : ∀ i, m ≤ i → cb_bit K i = false) (j : Nat) (h : m ≤ j) : cs_kn K s t j = false := by
  unfold cs_kn
  rw [hK j h, Bool.false_and]
theorem cs_st_f {K : Int64} {P : Nat → Int64} {s w : Nat → Int32} {m n : Nat} (hK : ∀ i, m ≤ i → cb_bit K i = false) (j : Nat) (h : m ≤ j) : cs_st K P s w n j = false := by
  unfold cs_st
  rw [hK j h, Bool.false_and]
theorem cs_pt_asg (K : Int64) (P : Nat → Int64) (s w : Nat → Int32) (m j : Nat) : (cs_kn K s 2 j && !cb_any (fun i => (cs_kn K s 2 i || cs_kn K s 4 i) && cb_bit (P i) j) m) = (decide (s j = 2) && cs_st K P s w m j) := by
  unfold cs_kn cs_st
  by_cases h : s j = 2
  · have e : ∀ i, i < m → (((cb_bit K i && decide (s i = 2)) || (cb_bit K i && decide (s i = 4))) && cb_bit (P i) j) = cs_kill K P s w j i := by
      intro i hi
      unfold cs_kill
      rw [h]
      have e0 : decide ((2 : Int32) = 0) = false := by decide
      have e2 : decide ((2 : Int32) = 2) = true := by decide
      rw [e0, e2]
      cases cb_bit K i <;> cases cb_bit (P i) j <;> cases decide (s i = 2) <;> cases decide (s i = 4) <;> rfl
    rw [cb_any_c e, decide_eq_true h, Bool.and_true, Bool.true_and]
  · rw [decide_eq_false h, Bool.and_false, Bool.false_and, Bool.false_and]
theorem cs_pt_cnt (K : Int64) (P : Nat → Int64) (s w : Nat → Int32) (m j : Nat) : (cs_kn K s 3 j && !cb_any (fun i => cs_kn K s 4 i && cb_bit (P i) j) m) = (decide (s j = 3) && cs_st K P s w m j) := by
  unfold cs_kn cs_st
  by_cases h : s j = 3
  · have e : ∀ i, i < m → ((cb_bit K i && decide (s i = 4)) && cb_bit (P i) j) = cs_kill K P s w j i := by
      intro i hi
      unfold cs_kill
      rw [h]
      have e0 : decide ((3 : Int32) = 0) = false := by decide
      have e2 : decide ((3 : Int32) = 2) = false := by decide
      rw [e0, e2]
      cases cb_bit K i <;> cases cb_bit (P i) j <;> cases decide (s i = 4) <;> rfl
    rw [cb_any_c e, decide_eq_true h, Bool.and_true, Bool.true_and]
  · rw [decide_eq_false h, Bool.and_false, Bool.false_and, Bool.false_and]
theorem cs_pt_add (K : Int64) (P : Nat → Int64) (s w : Nat → Int32) (e : Int32) (m j : Nat) : ((cs_kn K s 0 j && decide (w j = e)) && !cb_any (fun i => ((cs_kn K s 1 i && decide (w i = e)) || cs_kn K s 4 i) && cb_bit (P i) j) m) = ((decide (s j = 0) && decide (w j = e)) && cs_st K P s w m j) := by
  unfold cs_kn cs_st
  by_cases h : s j = 0
  · by_cases h2 : w j = e
    · have ee : ∀ i, i < m → ((((cb_bit K i && decide (s i = 1)) && decide (w i = e)) || (cb_bit K i && decide (s i = 4))) && cb_bit (P i) j) = cs_kill K P s w j i := by
        intro i hi
        unfold cs_kill
        rw [h, h2]
        have e0 : decide ((0 : Int32) = 0) = true := by decide
        have e2 : decide ((0 : Int32) = 2) = false := by decide
        rw [e0, e2]
        cases cb_bit K i <;> cases cb_bit (P i) j <;> cases decide (s i = 1) <;> cases decide (s i = 4) <;> cases decide (w i = e) <;> rfl
      rw [cb_any_c ee, decide_eq_true h, decide_eq_true h2, Bool.and_true, Bool.and_true, Bool.and_true, Bool.true_and]
    · rw [decide_eq_false h2, Bool.and_false, Bool.and_false, Bool.false_and, Bool.false_and]
  · rw [decide_eq_false h, Bool.and_false, Bool.false_and, Bool.false_and, Bool.false_and]
end
section
/-! the relation: the two states are alike but for the sorts' numbers (1 to 5 against 0 to 4) and for the origins (a set of changes a replica against a number a change) -/
def cs_R (m : Nat) (so s og : Nat → Int32) (K M : Nat → Int64) : Prop := m ≤ 48 ∧ (∀ i, i < m → so i = s i + 1) ∧ (∀ r, r < 3 → ∀ i, m ≤ i → cb_bit (K r) i = false) ∧ (∀ r, r < 3 → ∀ i, cb_bit (M r) i = (decide (i < m) && decide (og i = nI r)))
theorem cs_us {f : Nat → Int32} {k : Nat} {x : Int32} : upd f k x k = x := if_pos rfl
theorem cs_un {f : Nat → Int32} {k j : Nat} {x : Int32} (h : j ≠ k) : upd f k x j = f j := if_neg h
theorem cs_uLs {f : Nat → Int64} {k : Nat} {x : Int64} : vp_updL f k x k = x := if_pos rfl
theorem cs_uLn {f : Nat → Int64} {k j : Nat} {x : Int64} (h : j ≠ k) : vp_updL f k x j = f j := if_neg h
theorem cs_R0 : cs_R 0 (fun _ => 0) (fun _ => 0) (fun _ => 0) (fun _ => 0) (fun _ => 0) := by
  refine ⟨by omega, fun i h => absurd h (Nat.not_lt_zero i), fun r _ i _ => cb_0 i, fun r _ i => ?_⟩
  rw [decide_eq_false (Nat.not_lt_zero i), Bool.false_and]
  exact cb_0 i
theorem cs_RK {m : Nat} {so s og : Nat → Int32} {K M : Nat → Int64} (h : cs_R m so s og K M) (t : Nat) {x : Int64} (hx : ∀ i, m ≤ i → cb_bit x i = false) : cs_R m so s og (vp_updL K t x) M := by
  obtain ⟨h1, h2, h3, h4⟩ := h
  refine ⟨h1, h2, fun r hr i hi => ?_, h4⟩
  by_cases e : r = t
  · rw [e, cs_uLs]; exact hx i hi
  · rw [cs_uLn e]; exact h3 r hr i hi
theorem cs_make {m : Nat} {so s og : Nat → Int32} {K M : Nat → Int64} (h : cs_R m so s og K M) (hm : m < 48) {r : Nat} (hr : r < 3) {t t' : Int32} (ht : t' = t + 1) : cs_R (m + 1) (upd so m t') (upd s m t) (upd og m (nI r)) (vp_updL K r (K r ||| ((1 : Int64) <<< ((nI m).toInt64 &&& 63)))) (vp_updL M r (M r ||| ((1 : Int64) <<< ((nI m).toInt64 &&& 63)))) := by
  obtain ⟨h1, h2, h3, h4⟩ := h
  refine ⟨by omega, fun i hi => ?_, fun q hq i hi => ?_, fun q hq i => ?_⟩
  · by_cases e : i = m
    · rw [e, cs_us, cs_us]; exact ht
    · rw [cs_un e, cs_un e]; exact h2 i (by omega)
  · by_cases e : q = r
    · rw [e, cs_uLs, cb_or, h3 r hr i (by omega), cb_one (by omega), decide_eq_false (by omega)]
      rfl
    · rw [cs_uLn e]; exact h3 q hq i (by omega)
  · by_cases e : q = r
    · subst e
      rw [cs_uLs, cb_or, h4 q hq i, cb_one (by omega)]
      by_cases z : i = m
      · subst z
        rw [cs_us, decide_eq_true (show i < i + 1 by omega), decide_eq_true (show i = i from rfl), decide_eq_true (show nI q = nI q from rfl), Bool.or_true]
        rfl
      · rw [cs_un z, decide_eq_false z, Bool.or_false]
        by_cases y : i < m
        · rw [decide_eq_true y, decide_eq_true (show i < m + 1 by omega)]
        · rw [decide_eq_false y, decide_eq_false (show ¬ i < m + 1 by omega)]
    · rw [cs_uLn e, h4 q hq i]
      by_cases z : i = m
      · subst z
        have ne : ¬ nI r = nI q := fun x => e ((nI_eq (by omega) (by omega)).mp x).symm
        rw [cs_us, decide_eq_false (show ¬ i < i by omega), decide_eq_false ne, Bool.and_false, Bool.false_and]
      · rw [cs_un z]
        by_cases y : i < m
        · rw [decide_eq_true y, decide_eq_true (show i < m + 1 by omega)]
        · rw [decide_eq_false y, decide_eq_false (show ¬ i < m + 1 by omega)]
/-- what X's sets by sort hold -/
theorem cs_kn_eq {m : Nat} {so s og : Nat → Int32} {K M : Nat → Int64} (h : cs_R m so s og K M) {r : Nat} (hr : r < 3) {t t' : Int32} (ht : t' = t + 1) (j : Nat) : (decide (j < 48) && (cb_bit (K r) j && decide (so j = t'))) = cs_kn (K r) s t j := by
  obtain ⟨h1, h2, h3, h4⟩ := h
  unfold cs_kn
  rcases Nat.lt_or_ge j m with z | z
  · rw [decide_eq_true (show j < 48 by omega), Bool.true_and, h2 j z, ht]
    congr 1
    exact decide_eq_decide.mpr (Int32.add_left_inj 1)
  · rw [h3 r hr j z, Bool.false_and, Bool.false_and, Bool.and_false]
end
section
/-! X's private methods, each with a general post -/
theorem cb_tf {b : Bool} (h : ¬ b = false) : b = true := by
  cases b
  · exact absurd rfl h
  · rfl
theorem cb_ft {b : Bool} (h : ¬ b = true) : b = false := by
  cases b
  · rfl
  · exact absurd rfl h
theorem cx_rep (x : Int32) : (x < 0 ∨ 3 ≤ x) ∨ ∃ r : Nat, r < 3 ∧ x = nI r := by
  by_cases h0 : x < 0
  · exact Or.inl (Or.inl h0)
  · by_cases h3 : 3 ≤ x
    · exact Or.inl (Or.inr h3)
    · obtain ⟨j, hj, rfl⟩ := nI_of h0
      refine Or.inr ⟨j, ?_, rfl⟩
      rcases Nat.lt_or_ge j 3 with z | z
      · exact z
      · exact absurd (nI_le (a := 3) z hj) h3
theorem xr_t {post : Int32 → Prop} {r : Nat} (hr : r < 3) (h : post 1) : wpX_isReplica post (nI r) :=
  br_f (nI_pos (by omega)) (br_f (nI_ge (b := 3) hr (by decide)) h)
theorem xr_f {post : Int32 → Prop} {x : Int32} (hx : x < 0 ∨ 3 ≤ x) (h : post 0) : wpX_isReplica post x :=
  br_c (fun _ => h) (fun z => br_t (hx.resolve_left z) h)
theorem xh_holds {post : Int32 → Prop} {x : Int64} {i : Nat} (hi : i < 64) (ht : cb_bit x i = true → post 1) (hf : cb_bit x i = false → post 0) : wpX_holds post x (nI i) := by
  unfold wpX_holds
  rw [cb_ushr hi, cb_b0]
  exact br_c hf (fun h => ht (cb_tf h))
theorem cx_48 {i : Nat} (h : i < 48) : ¬ (48 : Int32) ≤ nI i := nI_ge (b := 48) h (by decide)
theorem cx_48e : (48 : Int32) ≤ nI 48 := by decide
theorem cx_ci {i : Nat} (h : i < 48) : (nI i).toNatClampNeg = i := nI_clamp (by omega)
theorem cx_in {i : Nat} (h : i < 48) : vp_in (nI i) 48 := vp_in_nI h (by omega)
theorem cx_in3 {r : Nat} (h : r < 3) : vp_in (nI r) 3 := vp_in_nI h (by omega)
theorem cx_n10 : ¬ (1 : Int32) = 0 := by decide
theorem cb_gat_s {p : Nat → Bool} {f : Nat → Int64} {i : Nat} (h : p i = true) : cb_gat p f i ||| f i = cb_gat p f (i + 1) := (if_pos h).symm
theorem cb_gat_k {p : Nat → Bool} {f : Nat → Int64} {i : Nat} (h : p i = false) : cb_gat p f i = cb_gat p f (i + 1) := (if_neg (fun z => by rw [h] at z; cases z)).symm
theorem cb_cnt_s {p : Nat → Bool} {i : Nat} (h : p i = true) : nI (cb_cnt p i) + 1 = nI (cb_cnt p (i + 1)) := by
  rw [nI_1]
  exact congrArg nI (if_pos h).symm
theorem cb_cnt_k {p : Nat → Bool} {i : Nat} (h : p i = false) : nI (cb_cnt p i) = nI (cb_cnt p (i + 1)) := congrArg nI (if_neg (fun z => by rw [h] at z; cases z)).symm
theorem cb_sum_s {p : Nat → Bool} {f : Nat → Int32} {i : Nat} (h : p i = true) : cb_sum p f i + f i = cb_sum p f (i + 1) := (if_pos h).symm
theorem cb_sum_k {p : Nat → Bool} {f : Nat → Int32} {i : Nat} (h : p i = false) : cb_sum p f i = cb_sum p f (i + 1) := (if_neg (fun z => by rw [h] at z; cases z)).symm
section
variable {f : Int32} {so w : Nat → Int32} {P K M : Nat → Int64}
theorem xh_pastsOf {post : Int64 → Prop} {x : Int64} (h : post (cb_gat (cb_bit x) P 48)) : wpX_pastsOf post (f, so, w, P, K, M) x := by
  refine loop_0 (fun n i s => wX_pastsOf_5 post x f so w P K M n s (nI i)) (fun i s => s = cb_gat (cb_bit x) P i) 48 0 rfl ?_ ?_
  · rintro n s rfl
    exact br_t cx_48e h
  · rintro n i s hi rfl ih
    refine br_f (cx_48 hi) (xh_holds (by omega) (fun e => ?_) (fun e => ?_))
    · refine br_f cx_n10 ⟨cx_in hi, ?_⟩
      rw [cx_ci hi]
      exact nm_r (cb_gat_s e) (nm_r (nI_1 i) (ih _ rfl))
    · exact br_t rfl (nm_r (nI_1 i) (ih _ (cb_gat_k e)))
theorem xh_sort {post : Int64 → Prop} {r : Nat} {t : Int32} (hr : r < 3) (h : post (cb_gat (fun j => cb_bit (K r) j && decide (so j = t)) (fun i => (1 : Int64) <<< ((nI i).toInt64 &&& 63)) 48)) : wpX_knownOfSort post (f, so, w, P, K, M) (nI r) t := by
  refine loop_0 (fun n i s => wX_knownOfSort_5 post (nI r) t f so w P K M n s (nI i)) (fun i s => s = cb_gat (fun j => cb_bit (K r) j && decide (so j = t)) (fun i => (1 : Int64) <<< ((nI i).toInt64 &&& 63)) i) 48 0 rfl ?_ ?_
  · rintro n s rfl
    exact br_t cx_48e h
  · rintro n i s hi rfl ih
    have er : (nI r).toNatClampNeg = r := nI_clamp (by omega)
    refine br_f (cx_48 hi) ⟨cx_in3 hr, ?_⟩
    rw [er]
    refine xh_holds (by omega) (fun e => ?_) (fun e => ?_)
    · refine br_f cx_n10 ⟨cx_in hi, ?_⟩
      rw [cx_ci hi]
      refine br_c (fun z => ?_) (fun z => ?_)
      · refine nm_r (cb_gat_s (f := fun i => (1 : Int64) <<< ((nI i).toInt64 &&& 63)) ?_) (nm_r (nI_1 i) (ih _ rfl))
        show (cb_bit (K r) i && decide (so i = t)) = true
        rw [e, decide_eq_true z, Bool.true_and]
      · refine nm_r (nI_1 i) (ih _ (cb_gat_k ?_))
        show (cb_bit (K r) i && decide (so i = t)) = false
        rw [decide_eq_false z, Bool.and_false]
    · refine br_t rfl (nm_r (nI_1 i) (ih _ (cb_gat_k ?_)))
      show (cb_bit (K r) i && decide (so i = t)) = false
      rw [e, Bool.false_and]
theorem xh_elem {post : Int64 → Prop} {x : Int64} {e : Int32} (h : post (cb_gat (fun j => cb_bit x j && decide (w j = e)) (fun i => (1 : Int64) <<< ((nI i).toInt64 &&& 63)) 48)) : ∃ n, wX_knownOfElement_14 post e x f so w P K M n 0 0 := by
  refine loop_0 (fun n i s => wX_knownOfElement_14 post e x f so w P K M n s (nI i)) (fun i s => s = cb_gat (fun j => cb_bit x j && decide (w j = e)) (fun i => (1 : Int64) <<< ((nI i).toInt64 &&& 63)) i) 48 0 rfl ?_ ?_
  · rintro n s rfl
    exact br_t cx_48e h
  · rintro n i s hi rfl ih
    refine br_f (cx_48 hi) ?_
    refine xh_holds (by omega) (fun y => ?_) (fun y => ?_)
    · refine br_f cx_n10 ⟨cx_in hi, ?_⟩
      rw [cx_ci hi]
      refine br_c (fun z => ?_) (fun z => ?_)
      · refine nm_r (cb_gat_s (f := fun i => (1 : Int64) <<< ((nI i).toInt64 &&& 63)) ?_) (nm_r (nI_1 i) (ih _ rfl))
        show (cb_bit x i && decide (w i = e)) = true
        rw [y, decide_eq_true z, Bool.true_and]
      · refine nm_r (nI_1 i) (ih _ (cb_gat_k ?_))
        show (cb_bit x i && decide (w i = e)) = false
        rw [decide_eq_false z, Bool.and_false]
    · refine br_t rfl (nm_r (nI_1 i) (ih _ (cb_gat_k ?_)))
      show (cb_bit x i && decide (w i = e)) = false
      rw [y, Bool.false_and]
theorem xh_sizeOf {post : Int32 → Prop} {x : Int64} (h : post (nI (cb_cnt (cb_bit x) 48))) : wpX_sizeOf post x := by
  refine loop_0 (fun n i s => wX_sizeOf_4 post x n s (nI i)) (fun i s => s = nI (cb_cnt (cb_bit x) i)) 48 0 rfl ?_ ?_
  · rintro n s rfl
    exact br_t cx_48e h
  · rintro n i s hi rfl ih
    refine br_f (cx_48 hi) (xh_holds (by omega) (fun e => ?_) (fun e => ?_))
    · exact br_f cx_n10 (nm_r (cb_cnt_s e) (nm_r (nI_1 i) (ih _ rfl)))
    · exact br_t rfl (nm_r (nI_1 i) (ih _ (cb_cnt_k e)))
theorem xh_sumOf {post : Int32 → Prop} {x : Int64} (h : post (cb_sum (cb_bit x) w 48)) : wpX_sumOf post (f, so, w, P, K, M) x := by
  refine loop_0 (fun n i s => wX_sumOf_5 post x f so w P K M n s (nI i)) (fun i s => s = cb_sum (cb_bit x) w i) 48 0 rfl ?_ ?_
  · rintro n s rfl
    exact br_t cx_48e h
  · rintro n i s hi rfl ih
    refine br_f (cx_48 hi) (xh_holds (by omega) (fun e => ?_) (fun e => ?_))
    · refine br_f cx_n10 ⟨cx_in hi, ?_⟩
      rw [cx_ci hi]
      exact nm_r (cb_sum_s e) (nm_r (nI_1 i) (ih _ rfl))
    · exact br_t rfl (nm_r (nI_1 i) (ih _ (cb_sum_k e)))
/-- one turn of placeOf behind its test: z says whether i stands ahead of c -/
theorem xh_place56 {post : Int32 → Prop} {J : Int32 → Int32 → Prop} {x : Int64} {c s : Int32} {i : Nat} (hi : i < 48) {z : Bool} (ht : (cb_bit x i && z) = true → J (s + 1) (nI (i + 1))) (hf : (cb_bit x i && z) = false → J s (nI (i + 1))) : wX_placeOf_56 post J x c s (nI i) (if z = true then 1 else 0) f so w P K M := by
  refine xh_holds (by omega) (fun e => ?_) (fun e => ?_)
  · rw [e, Bool.true_and] at ht hf
    cases z
    · exact br_f cx_n10 (br_t rfl (nm_r (nI_1 i) (hf rfl)))
    · exact br_f cx_n10 (br_f cx_n10 (nm_e (nm_r (nI_1 i) (ht rfl))))
  · exact br_t rfl (nm_r (nI_1 i) (hf (by rw [e, Bool.false_and])))
theorem xh_placeOf {post : Int32 → Prop} {x : Int64} {c : Nat} (hc : c < 48) (h : post (nI (cb_pl (cb_bit x) w c 48))) : wpX_placeOf post (f, so, w, P, K, M) x (nI c) := by
  refine loop_0 (fun n i s => wX_placeOf_6 post x (nI c) f so w P K M n s (nI i)) (fun i s => s = nI (cb_pl (cb_bit x) w c i)) 48 0 rfl ?_ ?_
  · rintro n s rfl
    exact br_t cx_48e h
  · rintro n i s hi rfl ih
    have key : ∀ z : Bool, z = (decide (w i < w c) || (decide (w i = w c) && decide (i < c))) → wX_placeOf_56 post (wX_placeOf_6 post x (nI c) f so w P K M n) x (nI c) (nI (cb_pl (cb_bit x) w c i)) (nI i) (if z = true then 1 else 0) f so w P K M := by
      intro z ez
      subst ez
      exact xh_place56 hi (fun y => ih _ (cb_cnt_s (p := fun j => cb_bit x j && (decide (w j < w c) || (decide (w j = w c) && decide (j < c)))) y)) (fun y => ih _ (cb_cnt_k (p := fun j => cb_bit x j && (decide (w j < w c) || (decide (w j = w c) && decide (j < c)))) y))
    refine br_f (cx_48 hi) ⟨cx_in hi, cx_in hc, ?_⟩
    rw [cx_ci hi, cx_ci hc]
    refine br_c (fun z => key true (by rw [decide_eq_true z, Bool.true_or])) (fun z => ⟨cx_in hi, cx_in hc, br_c (fun y => ?_) (fun y => key false (by rw [decide_eq_false z, decide_eq_false y, Bool.false_and, Bool.or_false]))⟩)
    refine br_c (fun q => key false ?_) (fun q => key true ?_)
    · have q' : ¬ i < c := fun a => nI_ge a (by omega) q
      rw [decide_eq_false z, decide_eq_false q', Bool.and_false, Bool.or_false]
    · have q' : i < c := by
        rcases Nat.lt_or_ge i c with a | a
        · exact a
        · exact absurd (nI_le a (by omega)) q
      rw [decide_eq_true y, decide_eq_true q', Bool.and_true, Bool.or_true]
/-- a search that ends at the first hit -/
theorem cb_srchF {W : Nat → Nat → Prop} {p : Nat → Bool} {g : Nat → Int32} {e : Nat} {post : Int32 → Prop} (hx : ∀ n, post 0 → W (n + 1) e) (hs : ∀ n i, i < e → (p i = true → post (g i)) → (p i = false → W n (i + 1)) → W (n + 1) i) (h : post (cb_fst p g e 0)) : ∃ n, W n 0 := by
  have key : ∀ k i, i + k = e → post (cb_fst p g k i) → W (k + 1) i := by
    intro k
    induction k with
    | zero =>
      intro i hi hp
      have : i = e := by omega
      subst this
      exact hx 0 hp
    | succ k ih =>
      intro i hi hp
      have hp' : post (if p i = true then g i else cb_fst p g k (i + 1)) := hp
      refine hs (k + 1) i (by omega) (fun z => ?_) (fun z => ih (i + 1) (by omega) ?_)
      · rw [if_pos z] at hp'; exact hp'
      · rw [if_neg (by rw [z]; decide)] at hp'; exact hp'
  exact ⟨e + 1, key e 0 (by omega) h⟩
theorem xh_value {post : Int32 → Prop} {x : Int64} {place : Int32} (h : post (cb_fst (fun i => cb_bit x i && decide (nI (cb_pl (cb_bit x) w i 48) = place)) w 48 0)) : ∃ n, wX_value_18 post place x f so w P K M n 0 := by
  refine cb_srchF (W := fun n i => wX_value_18 post place x f so w P K M n (nI i)) (fun n hp => br_t cx_48e hp) (fun n i hi hp hn => ?_) h
  refine br_f (cx_48 hi) (xh_holds (by omega) (fun e => ?_) (fun e => ?_))
  · refine br_f cx_n10 (xh_placeOf hi (br_c (fun z => ⟨cx_in hi, ?_⟩) (fun z => nm_r (nI_1 i) (hn ?_))))
    · rw [cx_ci hi]
      apply hp
      rw [e, decide_eq_true z, Bool.true_and]
    · rw [decide_eq_false z, Bool.and_false]
  · refine br_t rfl (nm_r (nI_1 i) (hn ?_))
    rw [e, Bool.false_and]
end
end
section
/-! X's sets by their bits, from related states -/
section
variable {m : Nat} {so s w og : Nat → Int32} {P K M : Nat → Int64} {f : Int32}
theorem xs_sort {post : Int64 → Prop} {r : Nat} {t t' : Int32} (R : cs_R m so s og K M) (hr : r < 3) (ht : t' = t + 1) (h : ∀ W, (∀ j, cb_bit W j = cs_kn (K r) s t j) → post W) : wpX_knownOfSort post (f, so, w, P, K, M) (nI r) t' :=
  xh_sort hr (h _ (fun j => by rw [cb_gat_one _ (by omega)]; exact cs_kn_eq R hr ht j))
theorem xs_elem {post : Int64 → Prop} {r : Nat} {t t' e : Int32} (R : cs_R m so s og K M) (hr : r < 3) (ht : t' = t + 1) (h : ∀ W, (∀ j, cb_bit W j = (cs_kn (K r) s t j && decide (w j = e))) → post W) : wpX_knownOfElement post (f, so, w, P, K, M) (nI r) t' e := by
  refine xs_sort R hr ht (fun G hG => xh_elem (h _ (fun j => ?_)))
  rw [cb_gat_one _ (by omega), hG j]
  rcases Nat.lt_or_ge j 48 with z | z
  · rw [decide_eq_true z, Bool.true_and]
  · rw [cs_kn_f (m := m) (R.2.2.1 r hr) j (Nat.le_trans R.1 z), Bool.false_and, Bool.and_false]
theorem xs_pasts {post : Int64 → Prop} {x : Int64} {q : Nat → Bool} (hm : m ≤ 48) (hx : ∀ j, cb_bit x j = q j) (hq : ∀ j, m ≤ j → q j = false) (h : ∀ W, (∀ j, cb_bit W j = cb_any (fun i => q i && cb_bit (P i) j) m) → post W) : wpX_pastsOf post (f, so, w, P, K, M) x := by
  refine xh_pastsOf (h _ (fun j => ?_))
  rw [cb_gat_bit]
  rw [cb_any_cut hm (fun i hi => by show (cb_bit x i && _) = false; rw [hx i, hq i hi, Bool.false_and])]
  exact cb_any_c (fun i _ => by show (cb_bit x i && _) = _; rw [hx i])
theorem xs_shown {post : Int64 → Prop} {r : Nat} (R : cs_R m so s og K M) (hr : r < 3) (h : ∀ W, (∀ j, cb_bit W j = (decide (s j = 2) && cs_st (K r) P s w m j)) → post W) : wpX_shownAssigns post (f, so, w, P, K, M) (nI r) := by
  refine xs_sort R hr (t := 2) (by decide) (fun A hA => ?_)
  refine xs_sort R hr (t := 4) (by decide) (fun Z hZ => ?_)
  refine xs_pasts (q := fun i => cs_kn (K r) s 2 i || cs_kn (K r) s 4 i) R.1 (fun j => by rw [cb_or, hA j, hZ j]) (fun j hj => by show (_ || _) = false; rw [cs_kn_f (R.2.2.1 r hr) j hj, cs_kn_f (R.2.2.1 r hr) j hj]; rfl) (fun U hU => h _ (fun j => ?_))
  rw [cb_andnot, hA j, hU j]
  exact cs_pt_asg (K r) P s w m j
end
end
section
/-! Y's private methods and loops, each with a general post -/
theorem yr_t {post : Int32 → Prop} {r : Nat} (hr : r < 3) (h : post 0) : wpY_bad post (nI r) :=
  br_f (nI_pos (by omega)) (br_t (nI_le (b := 2) (by omega) (by decide)) h)
theorem yr_f {post : Int32 → Prop} {x : Int32} (hx : x < 0 ∨ 3 ≤ x) (h : post 1) : wpY_bad post x := by
  refine br_c (fun _ => h) (fun z => br_f (fun y => ?_) h)
  exact cb_lirr x (Int32.lt_of_lt_of_le (Int32.lt_of_le_of_lt y (by decide)) (hx.resolve_left z))
theorem cb_srch {W : Nat → Nat → Prop} {p : Nat → Bool} {e : Nat} {A B : Prop} (hx : ∀ n, B → W (n + 1) e) (hs : ∀ n i, i < e → (p i = true → A) → (p i = false → W n (i + 1)) → W (n + 1) i) (hA : cb_any p e = true → A) (hB : cb_any p e = false → B) : ∃ n, W n 0 := by
  have key : ∀ k i, i + k = e → (∀ j, j < i → p j = false) → W (k + 1) i := by
    intro k
    induction k with
    | zero =>
      intro i hi hp
      have : i = e := by omega
      subst this
      exact hx 0 (hB (cb_any_f.mpr hp))
    | succ k ih =>
      intro i hi hp
      refine hs (k + 1) i (by omega) (fun z => hA (cb_any_t.mpr ⟨i, by omega, z⟩)) (fun z => ih (i + 1) (by omega) (fun j hj => ?_))
      rcases Nat.lt_or_ge j i with y | y
      · exact hp j y
      · have : j = i := by omega
        rw [this]; exact z
  exact ⟨e + 1, key e 0 (by omega) (fun j hj => absurd hj (Nat.not_lt_zero j))⟩
theorem cb_reach {W : Nat → Nat → Prop} {c : Nat} (hx : ∀ n, W (n + 1) c) (hs : ∀ n i, i < c → W n (i + 1) → W (n + 1) i) : ∃ n, W n 0 := by
  have key : ∀ k i, i + k = c → W (k + 1) i := by
    intro k
    induction k with
    | zero =>
      intro i hi
      have : i = c := by omega
      subst this
      exact hx 0
    | succ k ih =>
      intro i hi
      exact hs (k + 1) i (by omega) (ih (i + 1) (by omega))
  exact ⟨c + 1, key c 0 (by omega)⟩
theorem cb_least {p : Nat → Bool} : ∀ n, (∃ i, i < n ∧ p i = true) → ∃ c, c < n ∧ p c = true ∧ ∀ j, j < c → p j = false := by
  intro n
  induction n with
  | zero => rintro ⟨i, h, _⟩; exact absurd h (Nat.not_lt_zero i)
  | succ n ih =>
    rintro ⟨i, h, e⟩
    by_cases z : ∃ i, i < n ∧ p i = true
    · obtain ⟨c, a, b, d⟩ := ih z
      exact ⟨c, by omega, b, d⟩
    · have : i = n := by
        rcases Nat.lt_or_ge i n with y | y
        · exact absurd ⟨i, y, e⟩ z
        · omega
      subst this
      exact ⟨i, h, e, fun j hj => cb_ft (fun y => z ⟨j, hj, y⟩)⟩
theorem cy_m {m i : Nat} (hm : m ≤ 48) (h : i < m) : ¬ nI m ≤ nI i := nI_ge h (by omega)
theorem cy_me {m : Nat} (hm : m ≤ 48) : nI m ≤ nI m := nI_le (Nat.le_refl m) (by omega)
section
variable {m : Nat} {f : Int32} {s w og : Nat → Int32} {P K : Nat → Int64}
theorem ys_61 {post : Int32 → Prop} {J : Int32 → Prop} {x1 x2 : Int32} {i : Nat} (h : J (nI (i + 1))) : wY_stands_61 post J x1 x2 (nI i) f s w og P K :=
  br_t rfl (br_t rfl (br_t rfl (nm_r (nI_1 i) h)))
theorem ys_122 {post : Int32 → Prop} {J : Int32 → Prop} {x1 : Int32} {c i : Nat} (hc : c < 48) (hi : i < 48) (hA : s c = 2 → s i = 2 → post 0) (hB : ¬ (s c = 2 ∧ s i = 2) → J (nI (i + 1))) : wY_stands_122 post J x1 (nI c) (nI i) 1 f s w og P K := by
  refine br_f cx_n10 ⟨cx_in hc, ?_⟩
  rw [cx_ci hc, cx_ci hi]
  exact br_c (fun z => ⟨cx_in hi, br_c (fun y => hA z y) (fun y => nm_r (nI_1 i) (hB (fun q => y q.2)))⟩) (fun z => nm_r (nI_1 i) (hB (fun q => z q.1)))
theorem ys_81 {post : Int32 → Prop} {J : Int32 → Prop} {x1 : Int32} {c i : Nat} (hc : c < 48) (hi : i < 48) (hA : s c = 0 → s i = 1 → w i = w c → post 0) (hB : ¬ (s c = 0 ∧ s i = 1 ∧ w i = w c) → wY_stands_122 post J x1 (nI c) (nI i) 1 f s w og P K) : wY_stands_81 post J x1 (nI c) (nI i) 1 f s w og P K := by
  refine br_f cx_n10 ⟨cx_in hc, ?_⟩
  rw [cx_ci hc, cx_ci hi]
  exact br_c (fun z => ⟨cx_in hi, br_c (fun y => ⟨cx_in hi, cx_in hc, br_c (fun x => hA z y x) (fun x => hB (fun q => x q.2.2))⟩) (fun y => hB (fun q => y q.2.1))⟩) (fun z => hB (fun q => z q.1))
theorem ys_62 {post : Int32 → Prop} {J : Int32 → Prop} {x1 : Int32} {c i : Nat} (hc : c < 48) (hi : i < 48) (hA : ((decide (s i = 4) || ((decide (s c = 0) && decide (s i = 1)) && decide (w i = w c))) || (decide (s c = 2) && decide (s i = 2))) = true → post 0) (hB : ((decide (s i = 4) || ((decide (s c = 0) && decide (s i = 1)) && decide (w i = w c))) || (decide (s c = 2) && decide (s i = 2))) = false → J (nI (i + 1))) : wY_stands_62 post J x1 (nI c) (nI i) 1 f s w og P K := by
  refine br_f cx_n10 ⟨cx_in hi, ?_⟩
  rw [cx_ci hi]
  refine br_c (fun z => hA ?_) (fun z => ys_81 hc hi (fun a b d => hA ?_) (fun y => ys_122 hc hi (fun a b => hA ?_) (fun q => hB ?_)))
  · rw [decide_eq_true z, Bool.true_or, Bool.true_or]
  · rw [decide_eq_true a, decide_eq_true b, decide_eq_true d]
    simp
  · rw [decide_eq_true a, decide_eq_true b]
    simp
  · simp only [Bool.or_eq_false_iff, Bool.and_eq_false_imp, decide_eq_true_eq, decide_eq_false_iff_not, Bool.and_eq_true]
    exact ⟨⟨z, fun ⟨a, b⟩ d => y ⟨a, b, d⟩⟩, fun a b => q ⟨a, b⟩⟩
theorem yh_stands {post : Int32 → Prop} {r c : Nat} (hm : m ≤ 48) (hr : r < 3) (hc : c < 48) (ht : cs_st (K r) P s w m c = true → post 1) (hf : cs_st (K r) P s w m c = false → post 0) : wpY_stands post (nI m, s, w, og, P, K) (nI r) (nI c) := by
  have er : (nI r).toNatClampNeg = r := nI_clamp (by omega)
  refine ⟨cx_in3 hr, ?_⟩
  rw [er, cb_sshr (by omega), cb_b0]
  refine br_c (fun z => hf ?_) (fun z => ?_)
  · unfold cs_st
    rw [z, Bool.false_and]
  · have z' := cb_tf z
    unfold cs_st at ht hf
    rw [z', Bool.true_and] at ht hf
    refine cb_srch (W := fun n i => wY_stands_19 post (nI r) (nI c) (nI m) s w og P K n (nI i)) (p := cs_kill (K r) P s w c) (e := m) (A := post 0) (B := post 1) (fun n hB => br_t (cy_me hm) hB) (fun n i hi hA hB => ?_) (fun y => hf (by rw [y]; rfl)) (fun y => ht (by rw [y]; rfl))
    have hi' : i < 48 := by omega
    refine br_f (cy_m hm hi) ⟨cx_in3 hr, ?_⟩
    rw [er, cb_sshr (by omega), cb_b1]
    unfold cs_kill at hA hB
    refine br_c (fun a => ⟨cx_in hi', ?_⟩) (fun a => ys_61 (hB ?_))
    · rw [cx_ci hi', cb_sshr (by omega), cb_b1]
      refine br_c (fun b => ?_) (fun b => ys_61 (hB ?_))
      · rw [a, b, Bool.true_and, Bool.true_and] at hA hB
        exact ys_62 hc hi' hA hB
      · rw [cb_ft b, Bool.and_false, Bool.false_and]
    · rw [cb_ft a, Bool.false_and, Bool.false_and]
theorem yh_has {post : Int32 → Prop} {r : Nat} {e : Int32} (hm : m ≤ 48) (hr : r < 3) (ht : cb_any (fun c => (decide (s c = 0) && decide (w c = e &&& 7)) && cs_st (K r) P s w m c) m = true → post 1) (hf : cb_any (fun c => (decide (s c = 0) && decide (w c = e &&& 7)) && cs_st (K r) P s w m c) m = false → post 0) : ∃ n, wY_has_11 post (nI r) e (nI m) s w og P K n 0 := by
  refine cb_srch (W := fun n i => wY_has_11 post (nI r) e (nI m) s w og P K n (nI i)) (fun n hB => br_t (cy_me hm) hB) (fun n i hi hA hB => ?_) ht hf
  have hi' : i < 48 := by omega
  refine br_f (cy_m hm hi) ⟨cx_in hi', ?_⟩
  rw [cx_ci hi']
  refine br_c (fun a => ⟨cx_in hi', br_c (fun b => yh_stands hm hr hi' (fun z => br_f cx_n10 (hA ?_)) (fun z => br_t rfl (nm_r (nI_1 i) (hB ?_)))) (fun b => nm_r (nI_1 i) (hB ?_))⟩) (fun a => nm_r (nI_1 i) (hB ?_))
  · rw [decide_eq_true a, decide_eq_true b, z]; rfl
  · rw [z, Bool.and_false]
  · rw [decide_eq_false b, Bool.and_false, Bool.false_and]
  · rw [decide_eq_false a, Bool.false_and, Bool.false_and]
theorem yh_values {post : Int32 → Prop} {r : Nat} (hm : m ≤ 48) (hr : r < 3) (h : post (nI (cb_cnt (fun c => decide (s c = 2) && cs_st (K r) P s w m c) m))) : ∃ n, wY_values_13 post (nI r) (nI m) s w og P K n 0 0 := by
  refine loop_0 (fun n i x => wY_values_13 post (nI r) (nI m) s w og P K n x (nI i)) (fun i x => x = nI (cb_cnt (fun c => decide (s c = 2) && cs_st (K r) P s w m c) i)) m 0 rfl ?_ ?_
  · rintro n x rfl
    exact br_t (cy_me hm) h
  · rintro n i x hi rfl ih
    have hi' : i < 48 := by omega
    refine br_f (cy_m hm hi) ⟨cx_in hi', ?_⟩
    rw [cx_ci hi']
    refine br_c (fun a => yh_stands hm hr hi' (fun z => br_f cx_n10 (nm_r (cb_cnt_s ?_) (nm_r (nI_1 i) (ih _ rfl)))) (fun z => br_t rfl (nm_r (nI_1 i) (ih _ (cb_cnt_k ?_))))) (fun a => nm_r (nI_1 i) (ih _ (cb_cnt_k ?_)))
    · rw [decide_eq_true a, z]; rfl
    · rw [z, Bool.and_false]
    · rw [decide_eq_false a, Bool.false_and]
theorem yh_total {post : Int32 → Prop} {r : Nat} (hm : m ≤ 48) (hr : r < 3) (h : post (cb_sum (fun c => decide (s c = 3) && cs_st (K r) P s w m c) w m)) : ∃ n, wY_total_13 post (nI r) (nI m) s w og P K n 0 0 := by
  refine loop_0 (fun n i x => wY_total_13 post (nI r) (nI m) s w og P K n x (nI i)) (fun i x => x = cb_sum (fun c => decide (s c = 3) && cs_st (K r) P s w m c) w i) m 0 rfl ?_ ?_
  · rintro n x rfl
    exact br_t (cy_me hm) h
  · rintro n i x hi rfl ih
    have hi' : i < 48 := by omega
    refine br_f (cy_m hm hi) ⟨cx_in hi', ?_⟩
    rw [cx_ci hi']
    refine br_c (fun a => yh_stands hm hr hi' (fun z => br_f cx_n10 ⟨cx_in hi', nm_r (cb_sum_s ?_) (nm_r (nI_1 i) (ih _ rfl))⟩) (fun z => br_t rfl (nm_r (nI_1 i) (ih _ (cb_sum_k ?_))))) (fun a => nm_r (nI_1 i) (ih _ (cb_sum_k ?_)))
    · rw [decide_eq_true a, z]; rfl
    · rw [z, Bool.and_false]
    · rw [decide_eq_false a, Bool.false_and]
theorem yh_known {post : Int32 → Prop} {r o : Nat} (hm : m ≤ 48) (hr : r < 3) (h : post (nI (cb_cnt (fun c => decide (og c = nI o) && cb_bit (K r) c) m))) : ∃ n, wY_known_21 post (nI r) (nI o) (nI m) s w og P K n 0 0 := by
  have er : (nI r).toNatClampNeg = r := nI_clamp (by omega)
  refine loop_0 (fun n i x => wY_known_21 post (nI r) (nI o) (nI m) s w og P K n x (nI i)) (fun i x => x = nI (cb_cnt (fun c => decide (og c = nI o) && cb_bit (K r) c) i)) m 0 rfl ?_ ?_
  · rintro n x rfl
    exact br_t (cy_me hm) h
  · rintro n i x hi rfl ih
    have hi' : i < 48 := by omega
    refine br_f (cy_m hm hi) ⟨cx_in hi', ?_⟩
    rw [cx_ci hi']
    refine br_c (fun a => ⟨cx_in3 hr, ?_⟩) (fun a => nm_r (nI_1 i) (ih _ (cb_cnt_k ?_)))
    · rw [er, cb_sshr (by omega), cb_b1]
      refine br_c (fun b => nm_r (cb_cnt_s ?_) (nm_r (nI_1 i) (ih _ rfl))) (fun b => nm_r (nI_1 i) (ih _ (cb_cnt_k ?_)))
      · rw [decide_eq_true a, b]; rfl
      · rw [cb_ft b, Bool.and_false]
    · rw [decide_eq_false a, Bool.false_and]
/-- one turn of under behind its test -/
theorem yh_under46 {post : Int32 → Prop} {J : Int32 → Int32 → Prop} {x2 x3 x : Int32} {r i : Nat} (hm : m ≤ 48) (hr : r < 3) (hi : i < 48) {z : Bool} (ht : ((decide (s i = 2) && cs_st (K r) P s w m i) && z) = true → J (x + 1) (nI (i + 1))) (hf : ((decide (s i = 2) && cs_st (K r) P s w m i) && z) = false → J x (nI (i + 1))) : wY_under_46 post J (nI r) x2 x3 x (nI i) (if z = true then 1 else 0) (nI m) s w og P K := by
  refine ⟨cx_in hi, ?_⟩
  rw [cx_ci hi]
  refine br_c (fun a => ?_) (fun a => nm_r (nI_1 i) (hf ?_))
  · cases z
    · exact br_t rfl (nm_r (nI_1 i) (hf (by rw [Bool.and_false])))
    · refine br_f cx_n10 (yh_stands hm hr hi (fun b => br_f cx_n10 (nm_e (nm_r (nI_1 i) (ht ?_)))) (fun b => br_t rfl (nm_r (nI_1 i) (hf ?_))))
      · rw [decide_eq_true a, b]; rfl
      · rw [b, Bool.and_false, Bool.false_and]
  · rw [decide_eq_false a, Bool.false_and, Bool.false_and]
theorem yh_under {post : Int32 → Prop} {v : Int32} {q : Bool} {r : Nat} (hm : m ≤ 48) (hr : r < 3) (h : post (nI (cb_cnt (fun c => (decide (s c = 2) && cs_st (K r) P s w m c) && (decide (w c < v) || (q && decide (w c = v)))) m))) : wpY_under post (nI m, s, w, og, P, K) (nI r) v (if q = true then 1 else 0) := by
  refine loop_0 (fun n i x => wY_under_6 post (nI r) v (if q = true then 1 else 0) (nI m) s w og P K n x (nI i)) (fun i x => x = nI (cb_cnt (fun c => (decide (s c = 2) && cs_st (K r) P s w m c) && (decide (w c < v) || (q && decide (w c = v)))) i)) m 0 rfl ?_ ?_
  · rintro n x rfl
    exact br_t (cy_me hm) h
  · rintro n i x hi rfl ih
    have hi' : i < 48 := by omega
    have key : ∀ z : Bool, z = (decide (w i < v) || (q && decide (w i = v))) → wY_under_46 post (wY_under_6 post (nI r) v (if q = true then 1 else 0) (nI m) s w og P K n) (nI r) v (if q = true then 1 else 0) (nI (cb_cnt (fun c => (decide (s c = 2) && cs_st (K r) P s w m c) && (decide (w c < v) || (q && decide (w c = v)))) i)) (nI i) (if z = true then 1 else 0) (nI m) s w og P K := by
      intro z ez
      subst ez
      exact yh_under46 hm hr hi' (fun y => ih _ (cb_cnt_s (p := fun c => (decide (s c = 2) && cs_st (K r) P s w m c) && (decide (w c < v) || (q && decide (w c = v)))) y)) (fun y => ih _ (cb_cnt_k (p := fun c => (decide (s c = 2) && cs_st (K r) P s w m c) && (decide (w c < v) || (q && decide (w c = v)))) y))
    refine br_f (cy_m hm hi) ⟨cx_in hi', ?_⟩
    rw [cx_ci hi']
    refine br_c (fun a => key true (by rw [decide_eq_true a, Bool.true_or])) (fun a => ?_)
    cases q
    · exact br_t rfl (key false (by rw [decide_eq_false a]; rfl))
    · refine br_f cx_n10 ⟨cx_in hi', br_c (fun b => key true ?_) (fun b => key false ?_)⟩
      · rw [decide_eq_true b]; simp
      · rw [decide_eq_false a, decide_eq_false b]; rfl
theorem yh_value {post : Int32 → Prop} {place : Int32} {r : Nat} (hm : m ≤ 48) (hr : r < 3) (h : post (cb_fst (fun c => (decide (s c = 2) && cs_st (K r) P s w m c) && (decide (nI (cb_lo (fun c => decide (s c = 2) && cs_st (K r) P s w m c) w (w c) m) ≤ place) && decide (place < nI (cb_hi (fun c => decide (s c = 2) && cs_st (K r) P s w m c) w (w c) m)))) w m 0)) : ∃ n, wY_value_11 post (nI r) place (nI m) s w og P K n 0 := by
  refine cb_srchF (W := fun n i => wY_value_11 post (nI r) place (nI m) s w og P K n (nI i)) (fun n hp => br_t (cy_me hm) hp) (fun n i hi hp hn => ?_) h
  have hi' : i < 48 := by omega
  have elo : cb_cnt (fun c => (decide (s c = 2) && cs_st (K r) P s w m c) && (decide (w c < w i) || (false && decide (w c = w i)))) m = cb_lo (fun c => decide (s c = 2) && cs_st (K r) P s w m c) w (w i) m :=
    cb_cnt_eq (fun c _ => by show (_ && (_ || (false && _))) = (_ && _); rw [Bool.false_and, Bool.or_false])
  have ehi : cb_cnt (fun c => (decide (s c = 2) && cs_st (K r) P s w m c) && (decide (w c < w i) || (true && decide (w c = w i)))) m = cb_hi (fun c => decide (s c = 2) && cs_st (K r) P s w m c) w (w i) m :=
    cb_cnt_eq (fun c _ => by show (_ && (_ || (true && _))) = (_ && (_ || _)); rw [Bool.true_and])
  refine br_f (cy_m hm hi) ⟨cx_in hi', ?_⟩
  rw [cx_ci hi']
  refine br_c (fun a => yh_stands hm hr hi' (fun z => br_f cx_n10 ⟨cx_in hi', ?_⟩) (fun z => br_t rfl (nm_r (nI_1 i) (hn ?_)))) (fun a => nm_r (nI_1 i) (hn ?_))
  · refine yh_under (q := false) hm hr ⟨cx_in hi', yh_under (q := true) hm hr ?_⟩
    rw [elo, ehi]
    refine br_c (fun b => nm_r (nI_1 i) (hn ?_)) (fun b => br_c (fun d => nm_r (nI_1 i) (hn ?_)) (fun d => ⟨cx_in hi', ?_⟩))
    · rw [decide_eq_false (Int32.not_le.mpr b), Bool.false_and, Bool.and_false]
    · rw [decide_eq_false (Int32.not_lt.mpr d), Bool.and_false, Bool.and_false]
    · apply hp
      rw [decide_eq_true a, z, decide_eq_true (Int32.not_lt.mp b), decide_eq_true (Int32.not_le.mp d)]
      rfl
  · rw [z, Bool.and_false, Bool.false_and]
  · rw [decide_eq_false a, Bool.false_and, Bool.false_and]
end
end
section
/-! the relation as it is owed, and the making of changes -/
def i_Rel (_ : Nat) (u : SX) (v : SY) : Prop := ∃ (m : Nat) (so s w og : Nat → Int32) (P K M : Nat → Int64), u = (nI m, so, w, P, K, M) ∧ v = (nI m, s, w, og, P, K) ∧ cs_R m so s og K M
theorem i_up {k : Nat} {u : SX} {v : SY} (h : i_Rel k u v) : i_Rel (k + 3) u v := h
theorem i_vc0 : wpX_init (fun u => wpY_init (fun v => i_Rel 0 u v)) := ⟨0, _, _, _, _, _, _, _, rfl, rfl, cs_R0⟩
section
variable {m : Nat} {so s w og : Nat → Int32} {P K M : Nat → Int64}
theorem xm_bad {post : Int32 → SX → Prop} {x t d : Int32} (hx : x < 0 ∨ 3 ≤ x) (h : post (-1) (nI m, so, w, P, K, M)) : wpX_make post (nI m, so, w, P, K, M) x t d := by
  unfold wpX_make
  exact xr_f hx (br_t rfl h)
theorem ym_bad {post : Int32 → SY → Prop} {x t d : Int32} (hx : x < 0 ∨ 3 ≤ x) (h : post (-1) (nI m, s, w, og, P, K)) : wpY_make post (nI m, s, w, og, P, K) x t d := by
  unfold wpY_make
  exact yr_f hx (br_f cx_n10 h)
theorem xm_full {post : Int32 → SX → Prop} {r : Nat} {t d : Int32} (hr : r < 3) (h : post (-1) (nI 48, so, w, P, K, M)) : wpX_make post (nI 48, so, w, P, K, M) (nI r) t d := by
  unfold wpX_make
  refine xr_t hr (br_f cx_n10 (br_f ?_ h))
  decide
theorem ym_full {post : Int32 → SY → Prop} {r : Nat} {t d : Int32} (hr : r < 3) (h : post (-1) (nI 48, s, w, og, P, K)) : wpY_make post (nI 48, s, w, og, P, K) (nI r) t d := by
  unfold wpY_make
  exact yr_t hr (br_t rfl (br_t rfl h))
theorem xm_ok {post : Int32 → SX → Prop} {r : Nat} {t d : Int32} (hm : m < 48) (hr : r < 3) (h : post (nI (m + 1)) (nI (m + 1), upd so m t, upd w m d, vp_updL P m (K r), vp_updL K r (K r ||| ((1 : Int64) <<< ((nI m).toInt64 &&& 63))), vp_updL M r (M r ||| ((1 : Int64) <<< ((nI m).toInt64 &&& 63))))) : wpX_make post (nI m, so, w, P, K, M) (nI r) t d := by
  have er : (nI r).toNatClampNeg = r := nI_clamp (by omega)
  have em : (nI m).toNatClampNeg = m := cx_ci hm
  have e1 : nI m + 1 = nI (m + 1) := nI_1 m
  unfold wpX_make
  refine xr_t hr (br_f cx_n10 (br_t (nI_lt (b := 48) hm (by decide)) ?_))
  rw [er, em, e1]
  exact nm_e ⟨cx_in hm, nm_e ⟨cx_in hm, nm_e ⟨cx_in3 hr, cx_in hm, nm_e ⟨cx_in3 hr, cx_in3 hr, nm_e ⟨cx_in3 hr, cx_in3 hr, nm_e (nm_e h)⟩⟩⟩⟩⟩
theorem ym_ok {post : Int32 → SY → Prop} {r : Nat} {t d : Int32} (hm : m < 48) (hr : r < 3) (h : post (nI (m + 1)) (nI (m + 1), upd s m t, upd w m d, upd og m (nI r), vp_updL P m (K r), vp_updL K r (K r ||| ((1 : Int64) <<< ((nI m).toInt64 &&& 63))))) : wpY_make post (nI m, s, w, og, P, K) (nI r) t d := by
  have er : (nI r).toNatClampNeg = r := nI_clamp (by omega)
  have em : (nI m).toNatClampNeg = m := cx_ci hm
  have e1 : nI m + 1 = nI (m + 1) := nI_1 m
  have ne : ¬ nI m = 48 := fun z => absurd ((nI_eq (b := 48) (by omega) (by decide)).mp z) (by omega)
  unfold wpY_make
  refine yr_t hr (br_t rfl (br_f ne ?_))
  rw [er, em, e1]
  exact ⟨cx_in hm, nm_e ⟨cx_in hm, nm_e ⟨cx_in hm, nm_e ⟨cx_in3 hr, cx_in hm, nm_e ⟨cx_in3 hr, cx_in3 hr, nm_e (nm_e h)⟩⟩⟩⟩⟩
/-- both sides make a change, or refuse it -/
theorem cs_mk {k : Nat} (R : cs_R m so s og K M) (x d : Int32) {t t' : Int32} (ht : t' = t + 1) : wpX_make (fun r u' => wpY_make (fun r' v' => r' = r ∧ i_Rel k u' v') (nI m, s, w, og, P, K) x t d) (nI m, so, w, P, K, M) x t' d := by
  rcases cx_rep x with hx | ⟨r, hr, rfl⟩
  · exact xm_bad hx (ym_bad hx ⟨rfl, m, so, s, w, og, P, K, M, rfl, rfl, R⟩)
  · rcases Nat.lt_or_ge m 48 with hm | hm
    · exact xm_ok hm hr (ym_ok hm hr ⟨rfl, _, _, _, _, _, _, _, _, rfl, rfl, cs_make R hm hr ht⟩)
    · have : m = 48 := Nat.le_antisymm R.1 hm
      subst this
      exact xm_full hr (ym_full hr ⟨rfl, 48, so, s, w, og, P, K, M, rfl, rfl, R⟩)
end
end
section
/-! the owed statements, one a public method -/
theorem i_vc_add {k : Nat} {u : SX} {v : SY} (I : i_Rel k u v) (hk : k + 3 ≤ 1536) (v1 : Int32) (v2 : Int32) : wpX_add (fun r u' => wpY_add (fun r' v' => r' = r ∧ i_Rel (k + 3) u' v') v v1 v2) u v1 v2 := by
  obtain ⟨m, so, s, w, og, P, K, M, rfl, rfl, R⟩ := I
  unfold wpX_add wpY_add
  exact cs_mk R v1 (v2 &&& 7) (t := 0) (t' := 1) (by decide)
theorem i_vc_remove {k : Nat} {u : SX} {v : SY} (I : i_Rel k u v) (hk : k + 3 ≤ 1536) (v1 : Int32) (v2 : Int32) : wpX_remove (fun r u' => wpY_remove (fun r' v' => r' = r ∧ i_Rel (k + 3) u' v') v v1 v2) u v1 v2 := by
  obtain ⟨m, so, s, w, og, P, K, M, rfl, rfl, R⟩ := I
  unfold wpX_remove wpY_remove
  exact cs_mk R v1 (v2 &&& 7) (t := 1) (t' := 2) (by decide)
theorem i_vc_assign {k : Nat} {u : SX} {v : SY} (I : i_Rel k u v) (hk : k + 3 ≤ 1536) (v1 : Int32) (v2 : Int32) : wpX_assign (fun r u' => wpY_assign (fun r' v' => r' = r ∧ i_Rel (k + 3) u' v') v v1 v2) u v1 v2 := by
  obtain ⟨m, so, s, w, og, P, K, M, rfl, rfl, R⟩ := I
  unfold wpX_assign wpY_assign
  exact cs_mk R v1 v2 (t := 2) (t' := 3) (by decide)
theorem i_vc_count {k : Nat} {u : SX} {v : SY} (I : i_Rel k u v) (hk : k + 3 ≤ 1536) (v1 : Int32) (v2 : Int32) : wpX_count (fun r u' => wpY_count (fun r' v' => r' = r ∧ i_Rel (k + 3) u' v') v v1 v2) u v1 v2 := by
  obtain ⟨m, so, s, w, og, P, K, M, rfl, rfl, R⟩ := I
  unfold wpX_count wpY_count
  exact cs_mk R v1 v2 (t := 3) (t' := 4) (by decide)
theorem i_vc_reset {k : Nat} {u : SX} {v : SY} (I : i_Rel k u v) (hk : k + 3 ≤ 1536) (v1 : Int32) : wpX_reset (fun r u' => wpY_reset (fun r' v' => r' = r ∧ i_Rel (k + 3) u' v') v v1) u v1 := by
  obtain ⟨m, so, s, w, og, P, K, M, rfl, rfl, R⟩ := I
  unfold wpX_reset wpY_reset
  exact cs_mk R v1 0 (t := 4) (t' := 5) (by decide)
theorem i_vc_sync {k : Nat} {u : SX} {v : SY} (I : i_Rel k u v) (hk : k + 3 ≤ 1536) (v1 : Int32) (v2 : Int32) : wpX_sync (fun r u' => wpY_sync (fun r' v' => r' = r ∧ i_Rel (k + 3) u' v') v v1 v2) u v1 v2 := by
  obtain ⟨m, so, s, w, og, P, K, M, rfl, rfl, R⟩ := I
  unfold wpX_sync wpY_sync
  dsimp only
  rcases cx_rep v1 with hx | ⟨a, ha, rfl⟩
  · exact xr_f hx (br_t rfl (yr_f hx (br_f cx_n10 ⟨rfl, m, so, s, w, og, P, K, M, rfl, rfl, R⟩)))
  · rcases cx_rep v2 with hx | ⟨b, hb, rfl⟩
    · exact xr_t ha (br_f cx_n10 (xr_f hx (br_t rfl (yr_t ha (br_t rfl (yr_f hx (br_f cx_n10 ⟨rfl, m, so, s, w, og, P, K, M, rfl, rfl, R⟩)))))))
    · have ea : (nI a).toNatClampNeg = a := nI_clamp (by omega)
      have eb : (nI b).toNatClampNeg = b := nI_clamp (by omega)
      refine xr_t ha (br_f cx_n10 (xr_t hb (br_f cx_n10 ⟨cx_in3 hb, cx_in3 ha, cx_in3 hb, ?_⟩)))
      rw [ea, eb]
      refine nm_e (yr_t ha (br_t rfl (yr_t hb (br_t rfl ⟨cx_in3 hb, cx_in3 ha, cx_in3 hb, ?_⟩))))
      refine nm_e ⟨rfl, m, so, s, w, og, P, _, M, rfl, rfl, cs_RK R b (fun i hi => ?_)⟩
      rw [cb_or, R.2.2.1 b hb i hi, R.2.2.1 a ha i hi]
      rfl
/-- the reference's deliver: up to the first change that fits, or to the end -/
theorem yd_none {m f t : Nat} {s w og : Nat → Int32} {P K : Nat → Int64} {post : Int32 → SY → Prop} (hm : m ≤ 48) (ht : t < 3) (hl : ∀ j, j < m → ¬ (og j = nI f ∧ cb_bit (K t) j = false)) (h : post (-1) (nI m, s, w, og, P, K)) : ∃ n, wY_deliver_18 post (nI f) (nI t) (nI m) s w og P K n 0 := by
  have et : (nI t).toNatClampNeg = t := nI_clamp (by omega)
  refine cb_reach (W := fun n i => wY_deliver_18 post (nI f) (nI t) (nI m) s w og P K n (nI i)) (c := m) (fun n => br_t (cy_me hm) h) (fun n i hi ih => ?_)
  have hi' : i < 48 := by omega
  refine br_f (cy_m hm hi) ⟨cx_in hi', ?_⟩
  rw [cx_ci hi']
  refine br_c (fun a => ⟨cx_in3 ht, ?_⟩) (fun a => nm_r (nI_1 i) ih)
  rw [et, cb_sshr (by omega), cb_b0]
  exact br_f (fun b => hl i hi ⟨a, b⟩) (nm_r (nI_1 i) ih)
theorem yd_hit {m f t c : Nat} {s w og : Nat → Int32} {P K : Nat → Int64} {post : Int32 → SY → Prop} (hm : m ≤ 48) (ht : t < 3) (hc : c < m) (hp : og c = nI f ∧ cb_bit (K t) c = false) (hl : ∀ j, j < c → ¬ (og j = nI f ∧ cb_bit (K t) j = false)) (h1 : P c &&& (K t ^^^ (-1)) = 0 → post 0 (nI m, s, w, og, P, vp_updL K t (K t ||| ((1 : Int64) <<< ((nI c).toInt64 &&& 63))))) (h2 : ¬ P c &&& (K t ^^^ (-1)) = 0 → post (-2) (nI m, s, w, og, P, K)) : ∃ n, wY_deliver_18 post (nI f) (nI t) (nI m) s w og P K n 0 := by
  have et : (nI t).toNatClampNeg = t := nI_clamp (by omega)
  have hc' : c < 48 := by omega
  refine cb_reach (W := fun n i => wY_deliver_18 post (nI f) (nI t) (nI m) s w og P K n (nI i)) (c := c) (fun n => ?_) (fun n i hi ih => ?_)
  · refine br_f (cy_m hm hc) ⟨cx_in hc', ?_⟩
    rw [cx_ci hc']
    refine br_t hp.1 ⟨cx_in3 ht, ?_⟩
    rw [et, cb_sshr (by omega), cb_b0]
    exact br_t hp.2 ⟨cx_in hc', cx_in3 ht, br_c (fun z => ⟨cx_in3 ht, cx_in3 ht, nm_e (h1 z)⟩) (fun z => h2 z)⟩
  · have hi' : i < 48 := by omega
    refine br_f (cy_m hm (by omega)) ⟨cx_in hi', ?_⟩
    rw [cx_ci hi']
    refine br_c (fun a => ⟨cx_in3 ht, ?_⟩) (fun a => nm_r (nI_1 i) ih)
    rw [et, cb_sshr (by omega), cb_b0]
    exact br_f (fun b => hl i hi ⟨a, b⟩) (nm_r (nI_1 i) ih)
theorem i_vc_deliver {k : Nat} {u : SX} {v : SY} (I : i_Rel k u v) (hk : k + 3 ≤ 1536) (v1 : Int32) (v2 : Int32) : wpX_deliver (fun r u' => wpY_deliver (fun r' v' => r' = r ∧ i_Rel (k + 3) u' v') v v1 v2) u v1 v2 := by
  obtain ⟨m, so, s, w, og, P, K, M, rfl, rfl, R⟩ := I
  unfold wpX_deliver wpY_deliver
  dsimp only
  have D : ∀ {q : Int32}, q = q ∧ i_Rel (k + 3) (nI m, so, w, P, K, M) (nI m, s, w, og, P, K) := ⟨rfl, m, so, s, w, og, P, K, M, rfl, rfl, R⟩
  rcases cx_rep v1 with hx | ⟨a, ha, rfl⟩
  · exact xr_f hx (br_t rfl (yr_f hx (br_f cx_n10 D)))
  · rcases cx_rep v2 with hx | ⟨b, hb, rfl⟩
    · exact xr_t ha (br_f cx_n10 (xr_f hx (br_t rfl (yr_t ha (br_t rfl (yr_f hx (br_f cx_n10 D)))))))
    · have ea : (nI a).toNatClampNeg = a := nI_clamp (by omega)
      have eb : (nI b).toNatClampNeg = b := nI_clamp (by omega)
      have bits : ∀ i, cb_bit (M a &&& (K b ^^^ (-1))) i = ((decide (i < m) && decide (og i = nI a)) && !cb_bit (K b) i) := fun i => by rw [cb_andnot, R.2.2.2 a ha i]
      have bt : ∀ i, cb_bit (M a &&& (K b ^^^ (-1))) i = true → i < m ∧ og i = nI a ∧ cb_bit (K b) i = false := by
        intro i hi
        rw [bits i] at hi
        simp only [Bool.and_eq_true, decide_eq_true_eq, Bool.not_eq_true'] at hi
        exact ⟨hi.1.1, hi.1.2, hi.2⟩
      have bf : ∀ i, i < m → cb_bit (M a &&& (K b ^^^ (-1))) i = false → ¬ (og i = nI a ∧ cb_bit (K b) i = false) := by
        intro i hm hi ⟨h1, h2⟩
        rw [bits i, decide_eq_true hm, decide_eq_true h1, h2] at hi
        cases hi
      refine xr_t ha (br_f cx_n10 (xr_t hb (br_f cx_n10 ⟨cx_in3 ha, cx_in3 hb, ?_⟩)))
      rw [ea, eb]
      generalize M a &&& (K b ^^^ (-1)) = U at bits bt bf
      refine nm_e (br_c (fun z => ?_) (fun z => nm_e ?_))
      · refine yr_t ha (br_t rfl (yr_t hb (br_t rfl (yd_none R.1 hb (fun j hj => bf j hj ?_) D))))
        rw [z]; exact cb_0 j
      · have ex : ∃ i, i < 64 ∧ cb_bit U i = true := by
          refine Classical.byContradiction (fun y => z (cb_zero.mpr (fun i hi => cb_ft (fun q => y ⟨i, hi, q⟩))))
        obtain ⟨c, hc64, hc, hl⟩ := cb_least 64 ex
        obtain ⟨hcm, ho, hn⟩ := bt c hc
        have hcl : ∀ j, j < c → ¬ (og j = nI a ∧ cb_bit (K b) j = false) := fun j hj => bf j (by omega) (hl j hj)
        have eo : U &&& (-U) = (1 : Int64) <<< ((nI c).toInt64 &&& 63) := cb_ext (fun i _ => by rw [cb_lowest hc hl i, cb_one hc64])
        have hc48 : c < 48 := Nat.lt_of_lt_of_le hcm R.1
        rw [eo]
        refine xh_pastsOf ⟨cx_in3 hb, ?_⟩
        have ep : cb_gat (cb_bit ((1 : Int64) <<< ((nI c).toInt64 &&& 63))) P 48 = P c := by
          apply cb_ext
          intro j _
          rw [cb_gat_bit]
          cases e : cb_bit (P c) j
          · rw [cb_any_f]
            intro i _
            show (cb_bit _ i && cb_bit (P i) j) = false
            rw [cb_one hc64]
            by_cases y : i = c
            · rw [y, e, Bool.and_false]
            · rw [decide_eq_false y, Bool.false_and]
          · rw [cb_any_t]
            refine ⟨c, hc48, ?_⟩
            show (cb_bit _ c && cb_bit (P c) j) = true
            rw [cb_one hc64, e, decide_eq_true rfl, Bool.true_and]
        rw [ep]
        refine br_c (fun y => ⟨cx_in3 hb, cx_in3 hb, nm_e ?_⟩) (fun y => ?_)
        · refine yr_t ha (br_t rfl (yr_t hb (br_t rfl (yd_hit R.1 hb hcm ⟨ho, hn⟩ hcl (fun _ => ⟨rfl, m, so, s, w, og, P, _, M, rfl, rfl, cs_RK R b (fun i hi => ?_)⟩) (fun q => absurd y q)))))
          rw [cb_or, R.2.2.1 b hb i hi, cb_one hc64, decide_eq_false (by omega)]
          rfl
        · exact yr_t ha (br_t rfl (yr_t hb (br_t rfl (yd_hit R.1 hb hcm ⟨ho, hn⟩ hcl (fun q => absurd q y) (fun _ => D)))))
end
section
theorem i_vc_has {k : Nat} {u : SX} {v : SY} (I : i_Rel k u v) (hk : k + 3 ≤ 1536) (v1 : Int32) (v2 : Int32) : wpX_has (fun r => wpY_has (fun r' => r' = r ∧ i_Rel (k + 3) u v) v v1 v2) u v1 v2 := by
  obtain ⟨m, so, s, w, og, P, K, M, rfl, rfl, R⟩ := I
  have D : ∀ q : Int32, q = q ∧ i_Rel (k + 3) (nI m, so, w, P, K, M) (nI m, s, w, og, P, K) := fun _ => ⟨rfl, m, so, s, w, og, P, K, M, rfl, rfl, R⟩
  unfold wpX_has wpY_has
  dsimp only
  rcases cx_rep v1 with hx | ⟨r, hr, rfl⟩
  · exact xr_f hx (br_t rfl (yr_f hx (br_f cx_n10 (D _))))
  · have hK := R.2.2.1 r hr
    refine xr_t hr (br_f cx_n10 (nm_e ?_))
    refine xs_elem R hr (t := 0) (by decide) (fun A hA => ?_)
    refine xs_elem R hr (t := 1) (by decide) (fun B hB => ?_)
    refine xs_sort R hr (t := 4) (by decide) (fun Z hZ => ?_)
    refine xs_pasts (q := fun i => (cs_kn (K r) s 1 i && decide (w i = v2 &&& 7)) || cs_kn (K r) s 4 i) R.1 (fun j => by rw [cb_or, hB j, hZ j]) (fun j hj => by show ((_ && _) || _) = false; rw [cs_kn_f hK j hj, cs_kn_f hK j hj]; rfl) (fun U hU => ?_)
    have hW : ∀ j, cb_bit (A &&& (U ^^^ (-1))) j = ((decide (s j = 0) && decide (w j = v2 &&& 7)) && cs_st (K r) P s w m j) := fun j => by
      rw [cb_andnot, hA j, hU j]
      exact cs_pt_add (K r) P s w (v2 &&& 7) m j
    have hz := cs_any_zero (m := m) (by have := R.1; omega) hW (fun j hj => by show (_ && cs_st _ _ _ _ _ _) = false; rw [cs_st_f hK j hj, Bool.and_false])
    refine br_c (fun z => ?_) (fun z => ?_)
    · exact yr_t hr (br_t rfl (yh_has R.1 hr (fun y => by rw [hz.mp z] at y; cases y) (fun _ => D _)))
    · exact yr_t hr (br_t rfl (yh_has R.1 hr (fun _ => D _) (fun y => absurd (hz.mpr y) z)))
theorem i_vc_values {k : Nat} {u : SX} {v : SY} (I : i_Rel k u v) (hk : k + 3 ≤ 1536) (v1 : Int32) : wpX_values (fun r => wpY_values (fun r' => r' = r ∧ i_Rel (k + 3) u v) v v1) u v1 := by
  obtain ⟨m, so, s, w, og, P, K, M, rfl, rfl, R⟩ := I
  have D : ∀ q : Int32, q = q ∧ i_Rel (k + 3) (nI m, so, w, P, K, M) (nI m, s, w, og, P, K) := fun _ => ⟨rfl, m, so, s, w, og, P, K, M, rfl, rfl, R⟩
  unfold wpX_values wpY_values
  dsimp only
  rcases cx_rep v1 with hx | ⟨r, hr, rfl⟩
  · exact xr_f hx (br_t rfl (yr_f hx (br_f cx_n10 (D _))))
  · have hK := R.2.2.1 r hr
    refine xr_t hr (br_f cx_n10 ?_)
    refine xs_shown R hr (fun W hW => ?_)
    refine xh_sizeOf ?_
    have e : cb_cnt (cb_bit W) 48 = cb_cnt (fun c => decide (s c = 2) && cs_st (K r) P s w m c) m := by
      rw [cb_cnt_eq (q := fun c => decide (s c = 2) && cs_st (K r) P s w m c) (fun i _ => hW i)]
      exact cb_cnt_cut R.1 (fun i hi _ => by show (_ && cs_st _ _ _ _ _ _) = false; rw [cs_st_f hK i hi, Bool.and_false])
    rw [e]
    exact yr_t hr (br_t rfl (yh_values R.1 hr (D _)))
theorem i_vc_value {k : Nat} {u : SX} {v : SY} (I : i_Rel k u v) (hk : k + 3 ≤ 1536) (v1 : Int32) (v2 : Int32) : wpX_value (fun r => wpY_value (fun r' => r' = r ∧ i_Rel (k + 3) u v) v v1 v2) u v1 v2 := by
  obtain ⟨m, so, s, w, og, P, K, M, rfl, rfl, R⟩ := I
  have D : ∀ q : Int32, q = q ∧ i_Rel (k + 3) (nI m, so, w, P, K, M) (nI m, s, w, og, P, K) := fun _ => ⟨rfl, m, so, s, w, og, P, K, M, rfl, rfl, R⟩
  unfold wpX_value wpY_value
  dsimp only
  rcases cx_rep v1 with hx | ⟨r, hr, rfl⟩
  · exact xr_f hx (br_t rfl (yr_f hx (br_f cx_n10 (D _))))
  · have hK := R.2.2.1 r hr
    refine xr_t hr (br_f cx_n10 ?_)
    refine xs_shown R hr (fun W hW => xh_value ?_)
    have eW : cb_bit W = fun c => decide (s c = 2) && cs_st (K r) P s w m c := funext hW
    have hv := cb_value (S := fun c => decide (s c = 2) && cs_st (K r) P s w m c) (d := w) (n := 48) R.1 (Nat.le_refl 48) (fun i hi => by show (_ && cs_st _ _ _ _ _ _) = false; rw [cs_st_f hK i hi, Bool.and_false]) v2
    have e : cb_fst (fun i => cb_bit W i && decide (nI (cb_pl (cb_bit W) w i 48) = v2)) w 48 0 = cb_fst (fun c => (decide (s c = 2) && cs_st (K r) P s w m c) && (decide (nI (cb_lo (fun c => decide (s c = 2) && cs_st (K r) P s w m c) w (w c) m) ≤ v2) && decide (v2 < nI (cb_hi (fun c => decide (s c = 2) && cs_st (K r) P s w m c) w (w c) m)))) w m 0 := by
      rw [eW]
      exact hv
    rw [e]
    exact yr_t hr (br_t rfl (yh_value R.1 hr (D _)))
theorem i_vc_total {k : Nat} {u : SX} {v : SY} (I : i_Rel k u v) (hk : k + 3 ≤ 1536) (v1 : Int32) : wpX_total (fun r => wpY_total (fun r' => r' = r ∧ i_Rel (k + 3) u v) v v1) u v1 := by
  obtain ⟨m, so, s, w, og, P, K, M, rfl, rfl, R⟩ := I
  have D : ∀ q : Int32, q = q ∧ i_Rel (k + 3) (nI m, so, w, P, K, M) (nI m, s, w, og, P, K) := fun _ => ⟨rfl, m, so, s, w, og, P, K, M, rfl, rfl, R⟩
  unfold wpX_total wpY_total
  dsimp only
  rcases cx_rep v1 with hx | ⟨r, hr, rfl⟩
  · exact xr_f hx (br_t rfl (yr_f hx (br_f cx_n10 (D _))))
  · have hK := R.2.2.1 r hr
    refine xr_t hr (br_f cx_n10 ?_)
    refine xs_sort R hr (t := 3) (by decide) (fun A hA => ?_)
    refine xs_sort R hr (t := 4) (by decide) (fun Z hZ => ?_)
    refine xs_pasts (q := cs_kn (K r) s 4) R.1 hZ (cs_kn_f hK) (fun U hU => xh_sumOf ?_)
    have hW : ∀ j, cb_bit (A &&& (U ^^^ (-1))) j = (decide (s j = 3) && cs_st (K r) P s w m j) := fun j => by
      rw [cb_andnot, hA j, hU j]
      exact cs_pt_cnt (K r) P s w m j
    have e : cb_sum (cb_bit (A &&& (U ^^^ (-1)))) w 48 = cb_sum (fun c => decide (s c = 3) && cs_st (K r) P s w m c) w m := by
      rw [cb_sum_eq (q := fun c => decide (s c = 3) && cs_st (K r) P s w m c) (fun i _ => hW i)]
      exact cb_sum_cut R.1 (fun i hi _ => by show (_ && cs_st _ _ _ _ _ _) = false; rw [cs_st_f hK i hi, Bool.and_false])
    rw [e]
    exact yr_t hr (br_t rfl (yh_total R.1 hr (D _)))
theorem i_vc_known {k : Nat} {u : SX} {v : SY} (I : i_Rel k u v) (hk : k + 3 ≤ 1536) (v1 : Int32) (v2 : Int32) : wpX_known (fun r => wpY_known (fun r' => r' = r ∧ i_Rel (k + 3) u v) v v1 v2) u v1 v2 := by
  obtain ⟨m, so, s, w, og, P, K, M, rfl, rfl, R⟩ := I
  have D : ∀ q : Int32, q = q ∧ i_Rel (k + 3) (nI m, so, w, P, K, M) (nI m, s, w, og, P, K) := fun _ => ⟨rfl, m, so, s, w, og, P, K, M, rfl, rfl, R⟩
  unfold wpX_known wpY_known
  dsimp only
  rcases cx_rep v1 with hx | ⟨a, ha, rfl⟩
  · exact xr_f hx (br_t rfl (yr_f hx (br_f cx_n10 (D _))))
  · rcases cx_rep v2 with hx | ⟨b, hb, rfl⟩
    · exact xr_t ha (br_f cx_n10 (xr_f hx (br_t rfl (yr_t ha (br_t rfl (yr_f hx (br_f cx_n10 (D _))))))))
    · have ea : (nI a).toNatClampNeg = a := nI_clamp (by omega)
      have eb : (nI b).toNatClampNeg = b := nI_clamp (by omega)
      refine xr_t ha (br_f cx_n10 (xr_t hb (br_f cx_n10 ⟨cx_in3 ha, cx_in3 hb, ?_⟩)))
      rw [ea, eb]
      refine xh_sizeOf ?_
      have e : cb_cnt (cb_bit (K a &&& M b)) 48 = cb_cnt (fun c => decide (og c = nI b) && cb_bit (K a) c) m := by
        rw [cb_cnt_cut R.1 (fun i hi _ => by rw [cb_and, R.2.2.1 a ha i hi, Bool.false_and])]
        exact cb_cnt_eq (fun i hi => by rw [cb_and, R.2.2.2 b hb i, decide_eq_true hi, Bool.true_and, Bool.and_comm])
      rw [e]
      exact yr_t ha (br_t rfl (yr_t hb (br_t rfl (yh_known R.1 ha (D _)))))
end
