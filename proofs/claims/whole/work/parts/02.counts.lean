/-! searches, counts, sums, unions over 0 .. n - 1 -/
def cb_any (p : Nat → Bool) : Nat → Bool
  | 0 => false
  | n + 1 => cb_any p n || p n
def cb_cnt (p : Nat → Bool) : Nat → Nat
  | 0 => 0
  | n + 1 => if p n = true then cb_cnt p n + 1 else cb_cnt p n
def cb_sum (p : Nat → Bool) (f : Nat → Int32) : Nat → Int32
  | 0 => 0
  | n + 1 => if p n = true then cb_sum p f n + f n else cb_sum p f n
def cb_gat (p : Nat → Bool) (f : Nat → Int64) : Nat → Int64
  | 0 => 0
  | n + 1 => if p n = true then cb_gat p f n ||| f n else cb_gat p f n
/-- the value of f at the first of i, i + 1, .. , i + k - 1 with p, else 0 -/
def cb_fst (p : Nat → Bool) (f : Nat → Int32) : Nat → Nat → Int32
  | 0, _ => 0
  | k + 1, i => if p i = true then f i else cb_fst p f k (i + 1)
theorem cb_any_t {p : Nat → Bool} : ∀ {n : Nat}, cb_any p n = true ↔ ∃ i, i < n ∧ p i = true := by
  intro n
  induction n with
  | zero => exact ⟨(fun h => nomatch h), (fun ⟨i, h, _⟩ => absurd h (Nat.not_lt_zero i))⟩
  | succ n ih =>
    unfold cb_any
    rw [Bool.or_eq_true, ih]
    constructor
    · rintro (⟨i, h, e⟩ | e)
      · exact ⟨i, by omega, e⟩
      · exact ⟨n, by omega, e⟩
    · rintro ⟨i, h, e⟩
      rcases Nat.lt_or_ge i n with z | z
      · exact Or.inl ⟨i, z, e⟩
      · have : i = n := by omega
        subst this
        exact Or.inr e
theorem cb_any_f {p : Nat → Bool} {n : Nat} : cb_any p n = false ↔ ∀ i, i < n → p i = false := by
  constructor
  · intro h i hi
    cases e : p i
    · rfl
    · rw [cb_any_t.mpr ⟨i, hi, e⟩] at h
      cases h
  · intro h
    cases e : cb_any p n
    · rfl
    · obtain ⟨i, hi, z⟩ := cb_any_t.mp e
      rw [h i hi] at z
      cases z
theorem cb_any_eq {p q : Nat → Bool} {m n : Nat} (h : (∃ i, i < m ∧ p i = true) ↔ (∃ i, i < n ∧ q i = true)) : cb_any p m = cb_any q n := by
  cases e : cb_any p m <;> cases e' : cb_any q n
  · rfl
  · rw [cb_any_t.mpr (h.mpr (cb_any_t.mp e'))] at e; cases e
  · rw [cb_any_t.mpr (h.mp (cb_any_t.mp e))] at e'; cases e'
  · rfl
theorem cb_cnt_le (p : Nat → Bool) : ∀ n, cb_cnt p n ≤ n := by
  intro n
  induction n with
  | zero => exact Nat.le_refl 0
  | succ n ih => unfold cb_cnt; split <;> omega
theorem cb_cnt_eq {p q : Nat → Bool} : ∀ {n : Nat}, (∀ i, i < n → p i = q i) → cb_cnt p n = cb_cnt q n := by
  intro n
  induction n with
  | zero => intro _; rfl
  | succ n ih =>
    intro h
    unfold cb_cnt
    rw [h n (by omega), ih (fun i hi => h i (by omega))]
theorem cb_cnt_cut {p : Nat → Bool} {m : Nat} : ∀ {n : Nat}, m ≤ n → (∀ i, m ≤ i → i < n → p i = false) → cb_cnt p n = cb_cnt p m := by
  intro n
  induction n with
  | zero => intro h _; have : m = 0 := by omega
            subst this; rfl
  | succ n ih =>
    intro h hf
    rcases Nat.lt_or_ge n m with z | z
    · have : m = n + 1 := by omega
      subst this; rfl
    · have e : p n = false := hf n z (by omega)
      show (if p n = true then cb_cnt p n + 1 else cb_cnt p n) = _
      rw [e, if_neg (by decide)]
      exact ih z (fun i h1 h2 => hf i h1 (by omega))
theorem cb_sum_eq {p q : Nat → Bool} {f : Nat → Int32} : ∀ {n : Nat}, (∀ i, i < n → p i = q i) → cb_sum p f n = cb_sum q f n := by
  intro n
  induction n with
  | zero => intro _; rfl
  | succ n ih =>
    intro h
    unfold cb_sum
    rw [h n (by omega), ih (fun i hi => h i (by omega))]
theorem cb_sum_cut {p : Nat → Bool} {f : Nat → Int32} {m : Nat} : ∀ {n : Nat}, m ≤ n → (∀ i, m ≤ i → i < n → p i = false) → cb_sum p f n = cb_sum p f m := by
  intro n
  induction n with
  | zero => intro h _; have : m = 0 := by omega
            subst this; rfl
  | succ n ih =>
    intro h hf
    rcases Nat.lt_or_ge n m with z | z
    · have : m = n + 1 := by omega
      subst this; rfl
    · have e : p n = false := hf n z (by omega)
      show (if p n = true then cb_sum p f n + f n else cb_sum p f n) = _
      rw [e, if_neg (by decide)]
      exact ih z (fun i h1 h2 => hf i h1 (by omega))
theorem cb_cnt_add {p q r : Nat → Bool} : ∀ {n : Nat}, (∀ i, i < n → (r i = true ↔ (p i = true ∨ q i = true)) ∧ ¬ (p i = true ∧ q i = true)) → cb_cnt r n = cb_cnt p n + cb_cnt q n := by
  intro n
  induction n with
  | zero => intro _; rfl
  | succ n ih =>
    intro h
    have hn := h n (by omega)
    have hi := ih (fun i hi => h i (by omega))
    unfold cb_cnt
    cases e1 : p n <;> cases e2 : q n <;> cases e3 : r n <;> simp_all <;> omega
theorem cb_cnt_mono {p q : Nat → Bool} : ∀ {n : Nat}, (∀ i, i < n → p i = true → q i = true) → cb_cnt p n ≤ cb_cnt q n := by
  intro n
  induction n with
  | zero => intro _; exact Nat.le_refl 0
  | succ n ih =>
    intro h
    have hn := h n (by omega)
    have hi := ih (fun i hi => h i (by omega))
    unfold cb_cnt
    cases e1 : p n <;> cases e2 : q n <;> simp_all <;> omega
theorem cb_cnt_find {p : Nat → Bool} {t : Nat} : ∀ {n : Nat}, t < cb_cnt p n → ∃ i, i < n ∧ p i = true ∧ cb_cnt p i = t := by
  intro n
  induction n with
  | zero => intro h; exact absurd h (Nat.not_lt_zero t)
  | succ n ih =>
    intro h
    rcases Nat.lt_or_ge t (cb_cnt p n) with z | z
    · obtain ⟨i, h1, h2, h3⟩ := ih z
      exact ⟨i, by omega, h2, h3⟩
    · unfold cb_cnt at h
      by_cases e : p n = true
      · rw [if_pos e] at h
        exact ⟨n, by omega, e, by omega⟩
      · rw [if_neg e] at h
        omega
theorem cb_cnt_lim {p : Nat → Bool} {i n : Nat} (h : i ≤ n) : cb_cnt (fun j => p j && decide (j < i)) n = cb_cnt p i := by
  rw [cb_cnt_cut h (fun j h1 _ => by show (p j && decide (j < i)) = false; rw [decide_eq_false (by omega), Bool.and_false])]
  exact cb_cnt_eq (fun j hj => by show (p j && decide (j < i)) = p j; rw [decide_eq_true hj, Bool.and_true])
theorem cb_cnt_pos {p : Nat → Bool} {i n : Nat} (h : i < n) (e : p i = true) : cb_cnt p i < cb_cnt p n := by
  have h1 : cb_cnt p (i + 1) = cb_cnt p i + 1 := by
    show (if p i = true then cb_cnt p i + 1 else cb_cnt p i) = _
    rw [if_pos e]
  have h2 : cb_cnt p (i + 1) ≤ cb_cnt p n := by
    rw [← cb_cnt_lim (p := p) (show i + 1 ≤ n by omega)]
    exact cb_cnt_mono (fun j _ hj => by
      have hj' : (p j && decide (j < i + 1)) = true := hj
      rw [Bool.and_eq_true] at hj'
      exact hj'.1)
  omega
theorem cb_gat_bit (p : Nat → Bool) (f : Nat → Int64) (j : Nat) : ∀ n, cb_bit (cb_gat p f n) j = cb_any (fun i => p i && cb_bit (f i) j) n := by
  intro n
  induction n with
  | zero => exact cb_0 j
  | succ n ih =>
    unfold cb_gat cb_any
    by_cases e : p n = true
    · rw [if_pos e, cb_or, ih, e, Bool.true_and]
    · have e' : p n = false := by cases z : p n <;> simp_all
      rw [if_neg e, ih, e', Bool.false_and, Bool.or_false]
/-- the union of single bits -/
theorem cb_gat_one (p : Nat → Bool) {n : Nat} (hn : n ≤ 64) (j : Nat) : cb_bit (cb_gat p (fun i => (1 : Int64) <<< ((nI i).toInt64 &&& 63)) n) j = (decide (j < n) && p j) := by
  rw [cb_gat_bit]
  cases e : (decide (j < n) && p j)
  · rw [cb_any_f]
    intro i hi
    show (p i && cb_bit ((1 : Int64) <<< ((nI i).toInt64 &&& 63)) j) = false
    rw [cb_one (by omega)]
    by_cases z : j = i
    · subst z
      rw [decide_eq_true hi, Bool.true_and] at e
      rw [e, Bool.false_and]
    · rw [decide_eq_false z, Bool.and_false]
  · rw [Bool.and_eq_true, decide_eq_true_eq] at e
    rw [cb_any_t]
    refine ⟨j, e.1, ?_⟩
    show (p j && cb_bit ((1 : Int64) <<< ((nI j).toInt64 &&& 63)) j) = true
    rw [cb_one (by omega), e.2, decide_eq_true rfl, Bool.true_and]
theorem cb_fst_spec (p : Nat → Bool) (f : Nat → Int32) : ∀ k i, (∃ j, i ≤ j ∧ j < i + k ∧ p j = true ∧ cb_fst p f k i = f j) ∨ ((∀ j, i ≤ j → j < i + k → p j = false) ∧ cb_fst p f k i = 0) := by
  intro k
  induction k with
  | zero => intro i; exact Or.inr ⟨fun j h1 h2 => by omega, rfl⟩
  | succ k ih =>
    intro i
    unfold cb_fst
    by_cases e : p i = true
    · rw [if_pos e]
      exact Or.inl ⟨i, Nat.le_refl i, by omega, e, rfl⟩
    · rw [if_neg e]
      have e' : p i = false := by cases z : p i <;> simp_all
      rcases ih (i + 1) with ⟨j, h1, h2, h3, h4⟩ | ⟨h1, h2⟩
      · exact Or.inl ⟨j, by omega, by omega, h3, h4⟩
      · refine Or.inr ⟨fun j a b => ?_, h2⟩
        rcases Nat.lt_or_ge i j with z | z
        · exact h1 j z (by omega)
        · have : j = i := by omega
          rw [this]; exact e'
/-- two searches that agree -/
theorem cb_fst_eq {p q : Nat → Bool} {f : Nat → Int32} {m n : Nat} (h1 : ∀ i, i < m → p i = true → ∃ j, j < n ∧ q j = true) (h2 : ∀ i, i < n → q i = true → ∃ j, j < m ∧ p j = true) (h3 : ∀ i j, i < m → p i = true → j < n → q j = true → f i = f j) : cb_fst p f m 0 = cb_fst q f n 0 := by
  rcases cb_fst_spec p f m 0 with ⟨i, _, b, c, d⟩ | ⟨c, d⟩ <;> rcases cb_fst_spec q f n 0 with ⟨j, _, b', c', d'⟩ | ⟨c', d'⟩
  · rw [d, d']
    exact h3 i j (by omega) c (by omega) c'
  · obtain ⟨j, hj, z⟩ := h1 i (by omega) c
    rw [c' j (by omega) (by omega)] at z
    cases z
  · obtain ⟨i, hi, z⟩ := h2 j (by omega) c'
    rw [c i (by omega) (by omega)] at z
    cases z
  · rw [d, d']
