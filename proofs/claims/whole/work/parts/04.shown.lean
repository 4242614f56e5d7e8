/-! what a replica shows, as bits: K what it knows, P the pasts, s the sorts (0 to 4), w the details -/
def cs_kn (K : Int64) (s : Nat → Int32) (t : Int32) (j : Nat) : Bool := cb_bit K j && decide (s j = t)
def cs_kill (K : Int64) (P : Nat → Int64) (s w : Nat → Int32) (c d : Nat) : Bool := (cb_bit K d && cb_bit (P d) c) && ((decide (s d = 4) || ((decide (s c = 0) && decide (s d = 1)) && decide (w d = w c))) || (decide (s c = 2) && decide (s d = 2)))
def cs_st (K : Int64) (P : Nat → Int64) (s w : Nat → Int32) (m c : Nat) : Bool := cb_bit K c && !cb_any (cs_kill K P s w c) m
theorem cb_any_c {p q : Nat → Bool} {n : Nat} (h : ∀ i, i < n → p i = q i) : cb_any p n = cb_any q n :=
  cb_any_eq ⟨fun ⟨i, a, b⟩ => ⟨i, a, by rw [← h i a]; exact b⟩, fun ⟨i, a, b⟩ => ⟨i, a, by rw [h i a]; exact b⟩⟩
theorem cb_any_cut {p : Nat → Bool} {m n : Nat} (hm : m ≤ n) (h : ∀ i, m ≤ i → p i = false) : cb_any p n = cb_any p m :=
  cb_any_eq ⟨fun ⟨i, a, b⟩ => ⟨i, (by
    rcases Nat.lt_or_ge i m with z | z
    · exact z
    · rw [h i z] at b
      cases b), b⟩, fun ⟨i, a, b⟩ => ⟨i, by omega, b⟩⟩
theorem cs_any_zero {W : Int64} {p : Nat → Bool} {m : Nat} (hm : m ≤ 64) (h : ∀ j, cb_bit W j = p j) (hp : ∀ j, m ≤ j → p j = false) : W = 0 ↔ cb_any p m = false := by
  rw [cb_zero, cb_any_f]
  constructor
  · intro z i hi
    rw [← h i]
    exact z i (by omega)
  · intro z i hi
    rw [h i]
    rcases Nat.lt_or_ge i m with y | y
    · exact z i y
    · exact hp i y
theorem cs_kn_f {K : Int64} {s : Nat → Int32} {t : Int32} {m : Nat} (hK : ∀ i, m ≤ i → cb_bit K i = false) (j : Nat) (h : m ≤ j) : cs_kn K s t j = false := by
  unfold cs_kn
  rw [hK j h, Bool.false_and]
theorem cs_st_f {K : Int64} {P : Nat → Int64} {s w : Nat → Int32} {m n : Nat} (hK : ∀ i, m ≤ i → cb_bit K i = false) (j : Nat) (h : m ≤ j) : cs_st K P s w n j = false := by
  unfold cs_st
  rw [hK j h, Bool.false_and]
theorem cs_pt_asg (K : Int64) (P : Nat → Int64) (s w : Nat → Int32) (m j : Nat) : (cs_kn K s 2 j && !cb_any (fun i => (cs_kn K s 2 i || cs_kn K s 4 i) && cb_bit (P i) j) m) = (decide (s j = 2) && cs_st K P s w m j) := by
  unfold cs_kn cs_st
  by_cases h : s j = 2
  · have e : ∀ i, i < m → (((cb_bit K i && decide (s i = 2)) || (cb_bit K i && decide (s i = 4))) && cb_bit (P i) j) = cs_kill K P s w j i := by
      intro i hi
      unfold cs_kill
      rw [h]
      have e0 : decide ((2 : Int32) = 0) = false := by decide
      have e2 : decide ((2 : Int32) = 2) = true := by decide
      rw [e0, e2]
      cases cb_bit K i <;> cases cb_bit (P i) j <;> cases decide (s i = 2) <;> cases decide (s i = 4) <;> rfl
    rw [cb_any_c e, decide_eq_true h, Bool.and_true, Bool.true_and]
  · rw [decide_eq_false h, Bool.and_false, Bool.false_and, Bool.false_and]
theorem cs_pt_cnt (K : Int64) (P : Nat → Int64) (s w : Nat → Int32) (m j : Nat) : (cs_kn K s 3 j && !cb_any (fun i => cs_kn K s 4 i && cb_bit (P i) j) m) = (decide (s j = 3) && cs_st K P s w m j) := by
  unfold cs_kn cs_st
  by_cases h : s j = 3
  · have e : ∀ i, i < m → ((cb_bit K i && decide (s i = 4)) && cb_bit (P i) j) = cs_kill K P s w j i := by
      intro i hi
      unfold cs_kill
      rw [h]
      have e0 : decide ((3 : Int32) = 0) = false := by decide
      have e2 : decide ((3 : Int32) = 2) = false := by decide
      rw [e0, e2]
      cases cb_bit K i <;> cases cb_bit (P i) j <;> cases decide (s i = 4) <;> rfl
    rw [cb_any_c e, decide_eq_true h, Bool.and_true, Bool.true_and]
  · rw [decide_eq_false h, Bool.and_false, Bool.false_and, Bool.false_and]
theorem cs_pt_add (K : Int64) (P : Nat → Int64) (s w : Nat → Int32) (e : Int32) (m j : Nat) : ((cs_kn K s 0 j && decide (w j = e)) && !cb_any (fun i => ((cs_kn K s 1 i && decide (w i = e)) || cs_kn K s 4 i) && cb_bit (P i) j) m) = ((decide (s j = 0) && decide (w j = e)) && cs_st K P s w m j) := by
  unfold cs_kn cs_st
  by_cases h : s j = 0
  · by_cases h2 : w j = e
    · have ee : ∀ i, i < m → ((((cb_bit K i && decide (s i = 1)) && decide (w i = e)) || (cb_bit K i && decide (s i = 4))) && cb_bit (P i) j) = cs_kill K P s w j i := by
        intro i hi
        unfold cs_kill
        rw [h, h2]
        have e0 : decide ((0 : Int32) = 0) = true := by decide
        have e2 : decide ((0 : Int32) = 2) = false := by decide
        rw [e0, e2]
        cases cb_bit K i <;> cases cb_bit (P i) j <;> cases decide (s i = 1) <;> cases decide (s i = 4) <;> cases decide (w i = e) <;> rfl
      rw [cb_any_c ee, decide_eq_true h, decide_eq_true h2, Bool.and_true, Bool.and_true, Bool.and_true, Bool.true_and]
    · rw [decide_eq_false h2, Bool.and_false, Bool.and_false, Bool.false_and, Bool.false_and]
  · rw [decide_eq_false h, Bool.and_false, Bool.false_and, Bool.false_and, Bool.false_and]
