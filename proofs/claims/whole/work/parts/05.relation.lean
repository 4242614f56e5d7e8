/-! the relation: the two states are alike but for the sorts' numbers (1 to 5 against 0 to 4) and for the origins (a set of changes a replica against a number a change) -/
def cs_R (m : Nat) (so s og : Nat → Int32) (K M : Nat → Int64) : Prop := m ≤ 48 ∧ (∀ i, i < m → so i = s i + 1) ∧ (∀ r, r < 3 → ∀ i, m ≤ i → cb_bit (K r) i = false) ∧ (∀ r, r < 3 → ∀ i, cb_bit (M r) i = (decide (i < m) && decide (og i = nI r)))
theorem cs_us {f : Nat → Int32} {k : Nat} {x : Int32} : upd f k x k = x := if_pos rfl
theorem cs_un {f : Nat → Int32} {k j : Nat} {x : Int32} (h : j ≠ k) : upd f k x j = f j := if_neg h
theorem cs_uLs {f : Nat → Int64} {k : Nat} {x : Int64} : vp_updL f k x k = x := if_pos rfl
theorem cs_uLn {f : Nat → Int64} {k j : Nat} {x : Int64} (h : j ≠ k) : vp_updL f k x j = f j := if_neg h
theorem cs_R0 : cs_R 0 (fun _ => 0) (fun _ => 0) (fun _ => 0) (fun _ => 0) (fun _ => 0) := by
  refine ⟨by omega, fun i h => absurd h (Nat.not_lt_zero i), fun r _ i _ => cb_0 i, fun r _ i => ?_⟩
  rw [decide_eq_false (Nat.not_lt_zero i), Bool.false_and]
  exact cb_0 i
theorem cs_RK {m : Nat} {so s og : Nat → Int32} {K M : Nat → Int64} (h : cs_R m so s og K M) (t : Nat) {x : Int64} (hx : ∀ i, m ≤ i → cb_bit x i = false) : cs_R m so s og (vp_updL K t x) M := by
  obtain ⟨h1, h2, h3, h4⟩ := h
  refine ⟨h1, h2, fun r hr i hi => ?_, h4⟩
  by_cases e : r = t
  · rw [e, cs_uLs]; exact hx i hi
  · rw [cs_uLn e]; exact h3 r hr i hi
theorem cs_make {m : Nat} {so s og : Nat → Int32} {K M : Nat → Int64} (h : cs_R m so s og K M) (hm : m < 48) {r : Nat} (hr : r < 3) {t t' : Int32} (ht : t' = t + 1) : cs_R (m + 1) (upd so m t') (upd s m t) (upd og m (nI r)) (vp_updL K r (K r ||| ((1 : Int64) <<< ((nI m).toInt64 &&& 63)))) (vp_updL M r (M r ||| ((1 : Int64) <<< ((nI m).toInt64 &&& 63)))) := by
  obtain ⟨h1, h2, h3, h4⟩ := h
  refine ⟨by omega, fun i hi => ?_, fun q hq i hi => ?_, fun q hq i => ?_⟩
  · by_cases e : i = m
    · rw [e, cs_us, cs_us]; exact ht
    · rw [cs_un e, cs_un e]; exact h2 i (by omega)
  · by_cases e : q = r
    · rw [e, cs_uLs, cb_or, h3 r hr i (by omega), cb_one (by omega), decide_eq_false (by omega)]
      rfl
    · rw [cs_uLn e]; exact h3 q hq i (by omega)
  · by_cases e : q = r
    · subst e
      rw [cs_uLs, cb_or, h4 q hq i, cb_one (by omega)]
      by_cases z : i = m
      · subst z
        rw [cs_us, decide_eq_true (show i < i + 1 by omega), decide_eq_true (show i = i from rfl), decide_eq_true (show nI q = nI q from rfl), Bool.or_true]
        rfl
      · rw [cs_un z, decide_eq_false z, Bool.or_false]
        by_cases y : i < m
        · rw [decide_eq_true y, decide_eq_true (show i < m + 1 by omega)]
        · rw [decide_eq_false y, decide_eq_false (show ¬ i < m + 1 by omega)]
    · rw [cs_uLn e, h4 q hq i]
      by_cases z : i = m
      · subst z
        have ne : ¬ nI r = nI q := fun x => e ((nI_eq (by omega) (by omega)).mp x).symm
        rw [cs_us, decide_eq_false (show ¬ i < i by omega), decide_eq_false ne, Bool.and_false, Bool.false_and]
      · rw [cs_un z]
        by_cases y : i < m
        · rw [decide_eq_true y, decide_eq_true (show i < m + 1 by omega)]
        · rw [decide_eq_false y, decide_eq_false (show ¬ i < m + 1 by omega)]
/-- what X's sets by sort hold -/
theorem cs_kn_eq {m : Nat} {so s og : Nat → Int32} {K M : Nat → Int64} (h : cs_R m so s og K M) {r : Nat} (hr : r < 3) {t t' : Int32} (ht : t' = t + 1) (j : Nat) : (decide (j < 48) && (cb_bit (K r) j && decide (so j = t'))) = cs_kn (K r) s t j := by
  obtain ⟨h1, h2, h3, h4⟩ := h
  unfold cs_kn
  rcases Nat.lt_or_ge j m with z | z
  · rw [decide_eq_true (show j < 48 by omega), Bool.true_and, h2 j z, ht]
    congr 1
    exact decide_eq_decide.mpr (Int32.add_left_inj 1)
  · rw [h3 r hr j z, Bool.false_and, Bool.false_and, Bool.and_false]
