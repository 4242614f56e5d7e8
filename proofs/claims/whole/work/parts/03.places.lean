/-! places in the ascending order: counts of smaller values, and the search by them -/
def cb_lo (S : Nat → Bool) (d : Nat → Int32) (v : Int32) (n : Nat) : Nat := cb_cnt (fun j => S j && decide (d j < v)) n
def cb_es (S : Nat → Bool) (d : Nat → Int32) (v : Int32) (n : Nat) : Nat := cb_cnt (fun j => S j && decide (d j = v)) n
def cb_hi (S : Nat → Bool) (d : Nat → Int32) (v : Int32) (n : Nat) : Nat := cb_cnt (fun j => S j && (decide (d j < v) || decide (d j = v))) n
def cb_pl (S : Nat → Bool) (d : Nat → Int32) (i n : Nat) : Nat := cb_cnt (fun j => S j && (decide (d j < d i) || (decide (d j = d i) && decide (j < i)))) n
theorem cb_lirr (a : Int32) : ¬ a < a := by
  rw [Int32.lt_iff_toInt_lt]
  omega
theorem cb_hi_eq (S : Nat → Bool) (d : Nat → Int32) (v : Int32) (n : Nat) : cb_hi S d v n = cb_lo S d v n + cb_es S d v n := by
  unfold cb_hi cb_lo cb_es
  apply cb_cnt_add
  intro i hi
  constructor
  · simp only [Bool.and_eq_true, Bool.or_eq_true, decide_eq_true_eq]
    constructor
    · rintro ⟨a, b | b⟩
      · exact Or.inl ⟨a, b⟩
      · exact Or.inr ⟨a, b⟩
    · rintro (⟨a, b⟩ | ⟨a, b⟩)
      · exact ⟨a, Or.inl b⟩
      · exact ⟨a, Or.inr b⟩
  · simp only [Bool.and_eq_true, decide_eq_true_eq]
    rintro ⟨⟨_, b⟩, ⟨_, c⟩⟩
    rw [c] at b
    exact cb_lirr _ b
theorem cb_pl_eq (S : Nat → Bool) (d : Nat → Int32) {i n : Nat} (h : i ≤ n) : cb_pl S d i n = cb_lo S d (d i) n + cb_es S d (d i) i := by
  unfold cb_pl cb_lo cb_es
  rw [← cb_cnt_lim (p := fun j => S j && decide (d j = d i)) h]
  apply cb_cnt_add
  intro j hj
  constructor
  · simp only [Bool.and_eq_true, Bool.or_eq_true, decide_eq_true_eq]
    constructor
    · rintro ⟨a, b | ⟨b, c⟩⟩
      · exact Or.inl ⟨a, b⟩
      · exact Or.inr ⟨⟨a, b⟩, c⟩
    · rintro (⟨a, b⟩ | ⟨⟨a, b⟩, c⟩)
      · exact ⟨a, Or.inl b⟩
      · exact ⟨a, Or.inr ⟨b, c⟩⟩
  · simp only [Bool.and_eq_true, decide_eq_true_eq]
    rintro ⟨⟨_, b⟩, ⟨⟨_, c⟩, _⟩⟩
    rw [c] at b
    exact cb_lirr _ b
theorem cb_value {S : Nat → Bool} {d : Nat → Int32} {m n : Nat} (hm : m ≤ n) (hn : n ≤ 48) (hS : ∀ i, m ≤ i → S i = false) (place : Int32) : cb_fst (fun i => S i && decide (nI (cb_pl S d i n) = place)) d n 0 = cb_fst (fun c => S c && (decide (nI (cb_lo S d (d c) m) ≤ place) && decide (place < nI (cb_hi S d (d c) m)))) d m 0 := by
  have hlt : ∀ i, S i = true → i < m := by
    intro i h
    rcases Nat.lt_or_ge i m with z | z
    · exact z
    · rw [hS i z] at h
      cases h
  have hbl : ∀ v, cb_lo S d v m < 2 ^ 31 := fun v => by
    have : cb_lo S d v m ≤ m := cb_cnt_le _ m
    omega
  have hbh : ∀ v, cb_hi S d v m < 2 ^ 31 := fun v => by
    have : cb_hi S d v m ≤ m := cb_cnt_le _ m
    omega
  have hpl : ∀ i, i < m → cb_pl S d i n = cb_lo S d (d i) m + cb_es S d (d i) i := by
    intro i hi
    have e : cb_pl S d i n = cb_pl S d i m := cb_cnt_cut hm (fun j h1 _ => by
      show (S j && _) = false
      rw [hS j h1, Bool.false_and])
    rw [e, cb_pl_eq S d (by omega)]
  have hx : ∀ i, i < n → (S i && decide (nI (cb_pl S d i n) = place)) = true → i < m ∧ S i = true ∧ nI (cb_lo S d (d i) m) ≤ place ∧ place < nI (cb_hi S d (d i) m) := by
    intro i hi h
    rw [Bool.and_eq_true, decide_eq_true_eq] at h
    obtain ⟨h1, h2⟩ := h
    have him := hlt i h1
    have h3 := hpl i him
    have h4 : cb_es S d (d i) i < cb_es S d (d i) m := cb_cnt_pos him (by
      show (S i && decide (d i = d i)) = true
      rw [h1, decide_eq_true rfl]
      rfl)
    have h5 := cb_hi_eq S d (d i) m
    have h6 := hbh (d i)
    refine ⟨him, h1, ?_, ?_⟩
    · rw [← h2, nI_leI (by omega) (by omega)]; omega
    · rw [← h2, nI_ltI (by omega) (by omega)]; omega
  have hu : ∀ v w : Int32, nI (cb_lo S d w m) ≤ place → place < nI (cb_hi S d v m) → ¬ v < w := by
    intro v w h1 h2 hvw
    have h3 : cb_hi S d v m ≤ cb_lo S d w m := cb_cnt_mono (fun j _ hj => by
      have hj' : (S j && (decide (d j < v) || decide (d j = v))) = true := hj
      show (S j && decide (d j < w)) = true
      simp only [Bool.and_eq_true, Bool.or_eq_true, decide_eq_true_eq] at hj' ⊢
      refine ⟨hj'.1, ?_⟩
      rcases hj'.2 with z | z
      · exact Int32.lt_trans z hvw
      · rw [z]; exact hvw)
    have h4 : nI (cb_hi S d v m) ≤ nI (cb_lo S d w m) := nI_le h3 (hbl w)
    exact cb_lirr place (Int32.lt_of_lt_of_le h2 (Int32.le_trans h4 h1))
  apply cb_fst_eq
  · intro i hi h
    obtain ⟨a, b, c, e⟩ := hx i hi h
    refine ⟨i, a, ?_⟩
    show (S i && (decide (nI (cb_lo S d (d i) m) ≤ place) && decide (place < nI (cb_hi S d (d i) m)))) = true
    rw [b, decide_eq_true c, decide_eq_true e]
    rfl
  · intro c hc h
    have h' : (S c && (decide (nI (cb_lo S d (d c) m) ≤ place) && decide (place < nI (cb_hi S d (d c) m)))) = true := h
    simp only [Bool.and_eq_true, decide_eq_true_eq] at h'
    obtain ⟨h1, h2, h3⟩ := h'
    have h0 : ¬ place < 0 := fun z => cb_lirr place (Int32.lt_of_lt_of_le z (Int32.le_trans (nI_pos' (hbl (d c))) h2))
    obtain ⟨t, ht, et⟩ := nI_of h0
    rw [et, nI_leI (hbl _) ht] at h2
    rw [et, nI_ltI ht (hbh _)] at h3
    have h5 := cb_hi_eq S d (d c) m
    obtain ⟨i, hi, hp, hq⟩ := cb_cnt_find (p := fun j => S j && decide (d j = d c)) (t := t - cb_lo S d (d c) m) (n := m) (by
      show _ < cb_es S d (d c) m
      omega)
    have hp' : (S i && decide (d i = d c)) = true := hp
    rw [Bool.and_eq_true, decide_eq_true_eq] at hp'
    have hq' : cb_es S d (d c) i = t - cb_lo S d (d c) m := hq
    refine ⟨i, by omega, ?_⟩
    show (S i && decide (nI (cb_pl S d i n) = place)) = true
    have h6 := hpl i hi
    rw [hp'.2, hq'] at h6
    rw [hp'.1, h6, et, Bool.true_and, decide_eq_true_eq]
    congr 1
    omega
  · intro i c hi h hc h'
    obtain ⟨_, _, a, b⟩ := hx i hi h
    have h2 : (S c && (decide (nI (cb_lo S d (d c) m) ≤ place) && decide (place < nI (cb_hi S d (d c) m)))) = true := h'
    simp only [Bool.and_eq_true, decide_eq_true_eq] at h2
    obtain ⟨_, a', b'⟩ := h2
    exact Int32.le_antisymm (Int32.not_lt.mp (hu _ _ a b')) (Int32.not_lt.mp (hu _ _ a' b))
