/-! X's sets by their bits, from related states -/
section
variable {m : Nat} {so s w og : Nat → Int32} {P K M : Nat → Int64} {f : Int32}
theorem xs_sort {post : Int64 → Prop} {r : Nat} {t t' : Int32} (R : cs_R m so s og K M) (hr : r < 3) (ht : t' = t + 1) (h : ∀ W, (∀ j, cb_bit W j = cs_kn (K r) s t j) → post W) : wpX_knownOfSort post (f, so, w, P, K, M) (nI r) t' :=
  xh_sort hr (h _ (fun j => by rw [cb_gat_one _ (by omega)]; exact cs_kn_eq R hr ht j))
theorem xs_elem {post : Int64 → Prop} {r : Nat} {t t' e : Int32} (R : cs_R m so s og K M) (hr : r < 3) (ht : t' = t + 1) (h : ∀ W, (∀ j, cb_bit W j = (cs_kn (K r) s t j && decide (w j = e))) → post W) : wpX_knownOfElement post (f, so, w, P, K, M) (nI r) t' e := by
  refine xs_sort R hr ht (fun G hG => xh_elem (h _ (fun j => ?_)))
  rw [cb_gat_one _ (by omega), hG j]
  rcases Nat.lt_or_ge j 48 with z | z
  · rw [decide_eq_true z, Bool.true_and]
  · rw [cs_kn_f (m := m) (R.2.2.1 r hr) j (Nat.le_trans R.1 z), Bool.false_and, Bool.and_false]
theorem xs_pasts {post : Int64 → Prop} {x : Int64} {q : Nat → Bool} (hm : m ≤ 48) (hx : ∀ j, cb_bit x j = q j) (hq : ∀ j, m ≤ j → q j = false) (h : ∀ W, (∀ j, cb_bit W j = cb_any (fun i => q i && cb_bit (P i) j) m) → post W) : wpX_pastsOf post (f, so, w, P, K, M) x := by
  refine xh_pastsOf (h _ (fun j => ?_))
  rw [cb_gat_bit]
  rw [cb_any_cut hm (fun i hi => by show (cb_bit x i && _) = false; rw [hx i, hq i hi, Bool.false_and])]
  exact cb_any_c (fun i _ => by show (cb_bit x i && _) = _; rw [hx i])
theorem xs_shown {post : Int64 → Prop} {r : Nat} (R : cs_R m so s og K M) (hr : r < 3) (h : ∀ W, (∀ j, cb_bit W j = (decide (s j = 2) && cs_st (K r) P s w m j)) → post W) : wpX_shownAssigns post (f, so, w, P, K, M) (nI r) := by
  refine xs_sort R hr (t := 2) (by decide) (fun A hA => ?_)
  refine xs_sort R hr (t := 4) (by decide) (fun Z hZ => ?_)
  refine xs_pasts (q := fun i => cs_kn (K r) s 2 i || cs_kn (K r) s 4 i) R.1 (fun j => by rw [cb_or, hA j, hZ j]) (fun j hj => by show (_ || _) = false; rw [cs_kn_f (R.2.2.1 r hr) j hj, cs_kn_f (R.2.2.1 r hr) j hj]; rfl) (fun U hU => h _ (fun j => ?_))
  rw [cb_andnot, hA j, hU j]
  exact cs_pt_asg (K r) P s w m j
end
