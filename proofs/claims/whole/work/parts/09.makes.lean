/-! the relation as it is owed, and the making of changes -/
def i_Rel (_ : Nat) (u : SX) (v : SY) : Prop := ∃ (m : Nat) (so s w og : Nat → Int32) (P K M : Nat → Int64), u = (nI m, so, w, P, K, M) ∧ v = (nI m, s, w, og, P, K) ∧ cs_R m so s og K M
theorem i_up {k : Nat} {u : SX} {v : SY} (h : i_Rel k u v) : i_Rel (k + 3) u v := h
theorem i_vc0 : wpX_init (fun u => wpY_init (fun v => i_Rel 0 u v)) := ⟨0, _, _, _, _, _, _, _, rfl, rfl, cs_R0⟩
section
variable {m : Nat} {so s w og : Nat → Int32} {P K M : Nat → Int64}
theorem xm_bad {post : Int32 → SX → Prop} {x t d : Int32} (hx : x < 0 ∨ 3 ≤ x) (h : post (-1) (nI m, so, w, P, K, M)) : wpX_make post (nI m, so, w, P, K, M) x t d := by
  unfold wpX_make
  exact xr_f hx (br_t rfl h)
theorem ym_bad {post : Int32 → SY → Prop} {x t d : Int32} (hx : x < 0 ∨ 3 ≤ x) (h : post (-1) (nI m, s, w, og, P, K)) : wpY_make post (nI m, s, w, og, P, K) x t d := by
  unfold wpY_make
  exact yr_f hx (br_f cx_n10 h)
theorem xm_full {post : Int32 → SX → Prop} {r : Nat} {t d : Int32} (hr : r < 3) (h : post (-1) (nI 48, so, w, P, K, M)) : wpX_make post (nI 48, so, w, P, K, M) (nI r) t d := by
  unfold wpX_make
  refine xr_t hr (br_f cx_n10 (br_f ?_ h))
  decide
theorem ym_full {post : Int32 → SY → Prop} {r : Nat} {t d : Int32} (hr : r < 3) (h : post (-1) (nI 48, s, w, og, P, K)) : wpY_make post (nI 48, s, w, og, P, K) (nI r) t d := by
  unfold wpY_make
  exact yr_t hr (br_t rfl (br_t rfl h))
theorem xm_ok {post : Int32 → SX → Prop} {r : Nat} {t d : Int32} (hm : m < 48) (hr : r < 3) (h : post (nI (m + 1)) (nI (m + 1), upd so m t, upd w m d, vp_updL P m (K r), vp_updL K r (K r ||| ((1 : Int64) <<< ((nI m).toInt64 &&& 63))), vp_updL M r (M r ||| ((1 : Int64) <<< ((nI m).toInt64 &&& 63))))) : wpX_make post (nI m, so, w, P, K, M) (nI r) t d := by
  have er : (nI r).toNatClampNeg = r := nI_clamp (by omega)
  have em : (nI m).toNatClampNeg = m := cx_ci hm
  have e1 : nI m + 1 = nI (m + 1) := nI_1 m
  unfold wpX_make
  refine xr_t hr (br_f cx_n10 (br_t (nI_lt (b := 48) hm (by decide)) ?_))
  rw [er, em, e1]
  exact nm_e ⟨cx_in hm, nm_e ⟨cx_in hm, nm_e ⟨cx_in3 hr, cx_in hm, nm_e ⟨cx_in3 hr, cx_in3 hr, nm_e ⟨cx_in3 hr, cx_in3 hr, nm_e (nm_e h)⟩⟩⟩⟩⟩
theorem ym_ok {post : Int32 → SY → Prop} {r : Nat} {t d : Int32} (hm : m < 48) (hr : r < 3) (h : post (nI (m + 1)) (nI (m + 1), upd s m t, upd w m d, upd og m (nI r), vp_updL P m (K r), vp_updL K r (K r ||| ((1 : Int64) <<< ((nI m).toInt64 &&& 63))))) : wpY_make post (nI m, s, w, og, P, K) (nI r) t d := by
  have er : (nI r).toNatClampNeg = r := nI_clamp (by omega)
  have em : (nI m).toNatClampNeg = m := cx_ci hm
  have e1 : nI m + 1 = nI (m + 1) := nI_1 m
  have ne : ¬ nI m = 48 := fun z => absurd ((nI_eq (b := 48) (by omega) (by decide)).mp z) (by omega)
  unfold wpY_make
  refine yr_t hr (br_t rfl (br_f ne ?_))
  rw [er, em, e1]
  exact ⟨cx_in hm, nm_e ⟨cx_in hm, nm_e ⟨cx_in hm, nm_e ⟨cx_in3 hr, cx_in hm, nm_e ⟨cx_in3 hr, cx_in3 hr, nm_e (nm_e h)⟩⟩⟩⟩⟩
/-- both sides make a change, or refuse it -/
theorem cs_mk {k : Nat} (R : cs_R m so s og K M) (x d : Int32) {t t' : Int32} (ht : t' = t + 1) : wpX_make (fun r u' => wpY_make (fun r' v' => r' = r ∧ i_Rel k u' v') (nI m, s, w, og, P, K) x t d) (nI m, so, w, P, K, M) x t' d := by
  rcases cx_rep x with hx | ⟨r, hr, rfl⟩
  · exact xm_bad hx (ym_bad hx ⟨rfl, m, so, s, w, og, P, K, M, rfl, rfl, R⟩)
  · rcases Nat.lt_or_ge m 48 with hm | hm
    · exact xm_ok hm hr (ym_ok hm hr ⟨rfl, _, _, _, _, _, _, _, _, rfl, rfl, cs_make R hm hr ht⟩)
    · have : m = 48 := Nat.le_antisymm R.1 hm
      subst this
      exact xm_full hr (ym_full hr ⟨rfl, 48, so, s, w, og, P, K, M, rfl, rfl, R⟩)
end
