theorem i_vc_has {k : Nat} {u : SX} {v : SY} (I : i_Rel k u v) (hk : k + 3 ≤ 1536) (v1 : Int32) (v2 : Int32) : wpX_has (fun r => wpY_has (fun r' => r' = r ∧ i_Rel (k + 3) u v) v v1 v2) u v1 v2 := by
  obtain ⟨m, so, s, w, og, P, K, M, rfl, rfl, R⟩ := I
  have D : ∀ q : Int32, q = q ∧ i_Rel (k + 3) (nI m, so, w, P, K, M) (nI m, s, w, og, P, K) := fun _ => ⟨rfl, m, so, s, w, og, P, K, M, rfl, rfl, R⟩
  unfold wpX_has wpY_has
  dsimp only
  rcases cx_rep v1 with hx | ⟨r, hr, rfl⟩
  · exact xr_f hx (br_t rfl (yr_f hx (br_f cx_n10 (D _))))
  · have hK := R.2.2.1 r hr
    refine xr_t hr (br_f cx_n10 (nm_e ?_))
    refine xs_elem R hr (t := 0) (by decide) (fun A hA => ?_)
    refine xs_elem R hr (t := 1) (by decide) (fun B hB => ?_)
    refine xs_sort R hr (t := 4) (by decide) (fun Z hZ => ?_)
    refine xs_pasts (q := fun i => (cs_kn (K r) s 1 i && decide (w i = v2 &&& 7)) || cs_kn (K r) s 4 i) R.1 (fun j => by rw [cb_or, hB j, hZ j]) (fun j hj => by show ((_ && _) || _) = false; rw [cs_kn_f hK j hj, cs_kn_f hK j hj]; rfl) (fun U hU => ?_)
    have hW : ∀ j, cb_bit (A &&& (U ^^^ (-1))) j = ((decide (s j = 0) && decide (w j = v2 &&& 7)) && cs_st (K r) P s w m j) := fun j => by
      rw [cb_andnot, hA j, hU j]
      exact cs_pt_add (K r) P s w (v2 &&& 7) m j
    have hz := cs_any_zero (m := m) (by have := R.1; omega) hW (fun j hj => by show (_ && cs_st _ _ _ _ _ _) = false; rw [cs_st_f hK j hj, Bool.and_false])
    refine br_c (fun z => ?_) (fun z => ?_)
    · exact yr_t hr (br_t rfl (yh_has R.1 hr (fun y => by rw [hz.mp z] at y; cases y) (fun _ => D _)))
    · exact yr_t hr (br_t rfl (yh_has R.1 hr (fun _ => D _) (fun y => absurd (hz.mpr y) z)))
theorem i_vc_values {k : Nat} {u : SX} {v : SY} (I : i_Rel k u v) (hk : k + 3 ≤ 1536) (v1 : Int32) : wpX_values (fun r => wpY_values (fun r' => r' = r ∧ i_Rel (k + 3) u v) v v1) u v1 := by
  obtain ⟨m, so, s, w, og, P, K, M, rfl, rfl, R⟩ := I
  have D : ∀ q : Int32, q = q ∧ i_Rel (k + 3) (nI m, so, w, P, K, M) (nI m, s, w, og, P, K) := fun _ => ⟨rfl, m, so, s, w, og, P, K, M, rfl, rfl, R⟩
  unfold wpX_values wpY_values
  dsimp only
  rcases cx_rep v1 with hx | ⟨r, hr, rfl⟩
  · exact xr_f hx (br_t rfl (yr_f hx (br_f cx_n10 (D _))))
  · have hK := R.2.2.1 r hr
    refine xr_t hr (br_f cx_n10 ?_)
    refine xs_shown R hr (fun W hW => ?_)
    refine xh_sizeOf ?_
    have e : cb_cnt (cb_bit W) 48 = cb_cnt (fun c => decide (s c = 2) && cs_st (K r) P s w m c) m := by
      rw [cb_cnt_eq (q := fun c => decide (s c = 2) && cs_st (K r) P s w m c) (fun i _ => hW i)]
      exact cb_cnt_cut R.1 (fun i hi _ => by show (_ && cs_st _ _ _ _ _ _) = false; rw [cs_st_f hK i hi, Bool.and_false])
    rw [e]
    exact yr_t hr (br_t rfl (yh_values R.1 hr (D _)))
theorem i_vc_value {k : Nat} {u : SX} {v : SY} (I : i_Rel k u v) (hk : k + 3 ≤ 1536) (v1 : Int32) (v2 : Int32) : wpX_value (fun r => wpY_value (fun r' => r' = r ∧ i_Rel (k + 3) u v) v v1 v2) u v1 v2 := by
  obtain ⟨m, so, s, w, og, P, K, M, rfl, rfl, R⟩ := I
  have D : ∀ q : Int32, q = q ∧ i_Rel (k + 3) (nI m, so, w, P, K, M) (nI m, s, w, og, P, K) := fun _ => ⟨rfl, m, so, s, w, og, P, K, M, rfl, rfl, R⟩
  unfold wpX_value wpY_value
  dsimp only
  rcases cx_rep v1 with hx | ⟨r, hr, rfl⟩
  · exact xr_f hx (br_t rfl (yr_f hx (br_f cx_n10 (D _))))
  · have hK := R.2.2.1 r hr
    refine xr_t hr (br_f cx_n10 ?_)
    refine xs_shown R hr (fun W hW => xh_value ?_)
    have eW : cb_bit W = fun c => decide (s c = 2) && cs_st (K r) P s w m c := funext hW
    have hv := cb_value (S := fun c => decide (s c = 2) && cs_st (K r) P s w m c) (d := w) (n := 48) R.1 (Nat.le_refl 48) (fun i hi => by show (_ && cs_st _ _ _ _ _ _) = false; rw [cs_st_f hK i hi, Bool.and_false]) v2
    have e : cb_fst (fun i => cb_bit W i && decide (nI (cb_pl (cb_bit W) w i 48) = v2)) w 48 0 = cb_fst (fun c => (decide (s c = 2) && cs_st (K r) P s w m c) && (decide (nI (cb_lo (fun c => decide (s c = 2) && cs_st (K r) P s w m c) w (w c) m) ≤ v2) && decide (v2 < nI (cb_hi (fun c => decide (s c = 2) && cs_st (K r) P s w m c) w (w c) m)))) w m 0 := by
      rw [eW]
      exact hv
    rw [e]
    exact yr_t hr (br_t rfl (yh_value R.1 hr (D _)))
theorem i_vc_total {k : Nat} {u : SX} {v : SY} (I : i_Rel k u v) (hk : k + 3 ≤ 1536) (v1 : Int32) : wpX_total (fun r => wpY_total (fun r' => r' = r ∧ i_Rel (k + 3) u v) v v1) u v1 := by
  obtain ⟨m, so, s, w, og, P, K, M, rfl, rfl, R⟩ := I
  have D : ∀ q : Int32, q = q ∧ i_Rel (k + 3) (nI m, so, w, P, K, M) (nI m, s, w, og, P, K) := fun _ => ⟨rfl, m, so, s, w, og, P, K, M, rfl, rfl, R⟩
  unfold wpX_total wpY_total
  dsimp only
  rcases cx_rep v1 with hx | ⟨r, hr, rfl⟩
  · exact xr_f hx (br_t rfl (yr_f hx (br_f cx_n10 (D _))))
  · have hK := R.2.2.1 r hr
    refine xr_t hr (br_f cx_n10 ?_)
    refine xs_sort R hr (t := 3) (by decide) (fun A hA => ?_)
    refine xs_sort R hr (t := 4) (by decide) (fun Z hZ => ?_)
    refine xs_pasts (q := cs_kn (K r) s 4) R.1 hZ (cs_kn_f hK) (fun U hU => xh_sumOf ?_)
    have hW : ∀ j, cb_bit (A &&& (U ^^^ (-1))) j = (decide (s j = 3) && cs_st (K r) P s w m j) := fun j => by
      rw [cb_andnot, hA j, hU j]
      exact cs_pt_cnt (K r) P s w m j
    have e : cb_sum (cb_bit (A &&& (U ^^^ (-1)))) w 48 = cb_sum (fun c => decide (s c = 3) && cs_st (K r) P s w m c) w m := by
      rw [cb_sum_eq (q := fun c => decide (s c = 3) && cs_st (K r) P s w m c) (fun i _ => hW i)]
      exact cb_sum_cut R.1 (fun i hi _ => by show (_ && cs_st _ _ _ _ _ _) = false; rw [cs_st_f hK i hi, Bool.and_false])
    rw [e]
    exact yr_t hr (br_t rfl (yh_total R.1 hr (D _)))
theorem i_vc_known {k : Nat} {u : SX} {v : SY} (I : i_Rel k u v) (hk : k + 3 ≤ 1536) (v1 : Int32) (v2 : Int32) : wpX_known (fun r => wpY_known (fun r' => r' = r ∧ i_Rel (k + 3) u v) v v1 v2) u v1 v2 := by
  obtain ⟨m, so, s, w, og, P, K, M, rfl, rfl, R⟩ := I
  have D : ∀ q : Int32, q = q ∧ i_Rel (k + 3) (nI m, so, w, P, K, M) (nI m, s, w, og, P, K) := fun _ => ⟨rfl, m, so, s, w, og, P, K, M, rfl, rfl, R⟩
  unfold wpX_known wpY_known
  dsimp only
  rcases cx_rep v1 with hx | ⟨a, ha, rfl⟩
  · exact xr_f hx (br_t rfl (yr_f hx (br_f cx_n10 (D _))))
  · rcases cx_rep v2 with hx | ⟨b, hb, rfl⟩
    · exact xr_t ha (br_f cx_n10 (xr_f hx (br_t rfl (yr_t ha (br_t rfl (yr_f hx (br_f cx_n10 (D _))))))))
    · have ea : (nI a).toNatClampNeg = a := nI_clamp (by omega)
      have eb : (nI b).toNatClampNeg = b := nI_clamp (by omega)
      refine xr_t ha (br_f cx_n10 (xr_t hb (br_f cx_n10 ⟨cx_in3 ha, cx_in3 hb, ?_⟩)))
      rw [ea, eb]
      refine xh_sizeOf ?_
      have e : cb_cnt (cb_bit (K a &&& M b)) 48 = cb_cnt (fun c => decide (og c = nI b) && cb_bit (K a) c) m := by
        rw [cb_cnt_cut R.1 (fun i hi _ => by rw [cb_and, R.2.2.1 a ha i hi, Bool.false_and])]
        exact cb_cnt_eq (fun i hi => by rw [cb_and, R.2.2.2 b hb i, decide_eq_true hi, Bool.true_and, Bool.and_comm])
      rw [e]
      exact yr_t ha (br_t rfl (yr_t hb (br_t rfl (yh_known R.1 ha (D _)))))
