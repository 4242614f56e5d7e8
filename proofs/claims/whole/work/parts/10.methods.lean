/-! the owed statements, one a public method -/
theorem i_vc_add {k : Nat} {u : SX} {v : SY} (I : i_Rel k u v) (hk : k + 3 ≤ 1536) (v1 : Int32) (v2 : Int32) : wpX_add (fun r u' => wpY_add (fun r' v' => r' = r ∧ i_Rel (k + 3) u' v') v v1 v2) u v1 v2 := by
  obtain ⟨m, so, s, w, og, P, K, M, rfl, rfl, R⟩ := I
  unfold wpX_add wpY_add
  exact cs_mk R v1 (v2 &&& 7) (t := 0) (t' := 1) (by decide)
theorem i_vc_remove {k : Nat} {u : SX} {v : SY} (I : i_Rel k u v) (hk : k + 3 ≤ 1536) (v1 : Int32) (v2 : Int32) : wpX_remove (fun r u' => wpY_remove (fun r' v' => r' = r ∧ i_Rel (k + 3) u' v') v v1 v2) u v1 v2 := by
  obtain ⟨m, so, s, w, og, P, K, M, rfl, rfl, R⟩ := I
  unfold wpX_remove wpY_remove
  exact cs_mk R v1 (v2 &&& 7) (t := 1) (t' := 2) (by decide)
theorem i_vc_assign {k : Nat} {u : SX} {v : SY} (I : i_Rel k u v) (hk : k + 3 ≤ 1536) (v1 : Int32) (v2 : Int32) : wpX_assign (fun r u' => wpY_assign (fun r' v' => r' = r ∧ i_Rel (k + 3) u' v') v v1 v2) u v1 v2 := by
  obtain ⟨m, so, s, w, og, P, K, M, rfl, rfl, R⟩ := I
  unfold wpX_assign wpY_assign
  exact cs_mk R v1 v2 (t := 2) (t' := 3) (by decide)
theorem i_vc_count {k : Nat} {u : SX} {v : SY} (I : i_Rel k u v) (hk : k + 3 ≤ 1536) (v1 : Int32) (v2 : Int32) : wpX_count (fun r u' => wpY_count (fun r' v' => r' = r ∧ i_Rel (k + 3) u' v') v v1 v2) u v1 v2 := by
  obtain ⟨m, so, s, w, og, P, K, M, rfl, rfl, R⟩ := I
  unfold wpX_count wpY_count
  exact cs_mk R v1 v2 (t := 3) (t' := 4) (by decide)
theorem i_vc_reset {k : Nat} {u : SX} {v : SY} (I : i_Rel k u v) (hk : k + 3 ≤ 1536) (v1 : Int32) : wpX_reset (fun r u' => wpY_reset (fun r' v' => r' = r ∧ i_Rel (k + 3) u' v') v v1) u v1 := by
  obtain ⟨m, so, s, w, og, P, K, M, rfl, rfl, R⟩ := I
  unfold wpX_reset wpY_reset
  exact cs_mk R v1 0 (t := 4) (t' := 5) (by decide)
theorem i_vc_sync {k : Nat} {u : SX} {v : SY} (I : i_Rel k u v) (hk : k + 3 ≤ 1536) (v1 : Int32) (v2 : Int32) : wpX_sync (fun r u' => wpY_sync (fun r' v' => r' = r ∧ i_Rel (k + 3) u' v') v v1 v2) u v1 v2 := by
  obtain ⟨m, so, s, w, og, P, K, M, rfl, rfl, R⟩ := I
  unfold wpX_sync wpY_sync
  dsimp only
  rcases cx_rep v1 with hx | ⟨a, ha, rfl⟩
  · exact xr_f hx (br_t rfl (yr_f hx (br_f cx_n10 ⟨rfl, m, so, s, w, og, P, K, M, rfl, rfl, R⟩)))
  · rcases cx_rep v2 with hx | ⟨b, hb, rfl⟩
    · exact xr_t ha (br_f cx_n10 (xr_f hx (br_t rfl (yr_t ha (br_t rfl (yr_f hx (br_f cx_n10 ⟨rfl, m, so, s, w, og, P, K, M, rfl, rfl, R⟩)))))))
    · have ea : (nI a).toNatClampNeg = a := nI_clamp (by omega)
      have eb : (nI b).toNatClampNeg = b := nI_clamp (by omega)
      refine xr_t ha (br_f cx_n10 (xr_t hb (br_f cx_n10 ⟨cx_in3 hb, cx_in3 ha, cx_in3 hb, ?_⟩)))
      rw [ea, eb]
      refine nm_e (yr_t ha (br_t rfl (yr_t hb (br_t rfl ⟨cx_in3 hb, cx_in3 ha, cx_in3 hb, ?_⟩))))
      refine nm_e ⟨rfl, m, so, s, w, og, P, _, M, rfl, rfl, cs_RK R b (fun i hi => ?_)⟩
      rw [cb_or, R.2.2.1 b hb i hi, R.2.2.1 a ha i hi]
      rfl
/-- the reference's deliver: up to the first change that fits, or to the end -/
theorem yd_none {m f t : Nat} {s w og : Nat → Int32} {P K : Nat → Int64} {post : Int32 → SY → Prop} (hm : m ≤ 48) (ht : t < 3) (hl : ∀ j, j < m → ¬ (og j = nI f ∧ cb_bit (K t) j = false)) (h : post (-1) (nI m, s, w, og, P, K)) : ∃ n, wY_deliver_18 post (nI f) (nI t) (nI m) s w og P K n 0 := by
  have et : (nI t).toNatClampNeg = t := nI_clamp (by omega)
  refine cb_reach (W := fun n i => wY_deliver_18 post (nI f) (nI t) (nI m) s w og P K n (nI i)) (c := m) (fun n => br_t (cy_me hm) h) (fun n i hi ih => ?_)
  have hi' : i < 48 := by omega
  refine br_f (cy_m hm hi) ⟨cx_in hi', ?_⟩
  rw [cx_ci hi']
  refine br_c (fun a => ⟨cx_in3 ht, ?_⟩) (fun a => nm_r (nI_1 i) ih)
  rw [et, cb_sshr (by omega), cb_b0]
  exact br_f (fun b => hl i hi ⟨a, b⟩) (nm_r (nI_1 i) ih)
theorem yd_hit {m f t c : Nat} {s w og : Nat → Int32} {P K : Nat → Int64} {post : Int32 → SY → Prop} (hm : m ≤ 48) (ht : t < 3) (hc : c < m) (hp : og c = nI f ∧ cb_bit (K t) c = false) (hl : ∀ j, j < c → ¬ (og j = nI f ∧ cb_bit (K t) j = false)) (h1 : P c &&& (K t ^^^ (-1)) = 0 → post 0 (nI m, s, w, og, P, vp_updL K t (K t ||| ((1 : Int64) <<< ((nI c).toInt64 &&& 63))))) (h2 : ¬ P c &&& (K t ^^^ (-1)) = 0 → post (-2) (nI m, s, w, og, P, K)) : ∃ n, wY_deliver_18 post (nI f) (nI t) (nI m) s w og P K n 0 := by
  have et : (nI t).toNatClampNeg = t := nI_clamp (by omega)
  have hc' : c < 48 := by omega
  refine cb_reach (W := fun n i => wY_deliver_18 post (nI f) (nI t) (nI m) s w og P K n (nI i)) (c := c) (fun n => ?_) (fun n i hi ih => ?_)
  · refine br_f (cy_m hm hc) ⟨cx_in hc', ?_⟩
    rw [cx_ci hc']
    refine br_t hp.1 ⟨cx_in3 ht, ?_⟩
    rw [et, cb_sshr (by omega), cb_b0]
    exact br_t hp.2 ⟨cx_in hc', cx_in3 ht, br_c (fun z => ⟨cx_in3 ht, cx_in3 ht, nm_e (h1 z)⟩) (fun z => h2 z)⟩
  · have hi' : i < 48 := by omega
    refine br_f (cy_m hm (by omega)) ⟨cx_in hi', ?_⟩
    rw [cx_ci hi']
    refine br_c (fun a => ⟨cx_in3 ht, ?_⟩) (fun a => nm_r (nI_1 i) ih)
    rw [et, cb_sshr (by omega), cb_b0]
    exact br_f (fun b => hl i hi ⟨a, b⟩) (nm_r (nI_1 i) ih)
theorem i_vc_deliver {k : Nat} {u : SX} {v : SY} (I : i_Rel k u v) (hk : k + 3 ≤ 1536) (v1 : Int32) (v2 : Int32) : wpX_deliver (fun r u' => wpY_deliver (fun r' v' => r' = r ∧ i_Rel (k + 3) u' v') v v1 v2) u v1 v2 := by
  obtain ⟨m, so, s, w, og, P, K, M, rfl, rfl, R⟩ := I
  unfold wpX_deliver wpY_deliver
  dsimp only
  have D : ∀ {q : Int32}, q = q ∧ i_Rel (k + 3) (nI m, so, w, P, K, M) (nI m, s, w, og, P, K) := ⟨rfl, m, so, s, w, og, P, K, M, rfl, rfl, R⟩
  rcases cx_rep v1 with hx | ⟨a, ha, rfl⟩
  · exact xr_f hx (br_t rfl (yr_f hx (br_f cx_n10 D)))
  · rcases cx_rep v2 with hx | ⟨b, hb, rfl⟩
    · exact xr_t ha (br_f cx_n10 (xr_f hx (br_t rfl (yr_t ha (br_t rfl (yr_f hx (br_f cx_n10 D)))))))
    · have ea : (nI a).toNatClampNeg = a := nI_clamp (by omega)
      have eb : (nI b).toNatClampNeg = b := nI_clamp (by omega)
      have bits : ∀ i, cb_bit (M a &&& (K b ^^^ (-1))) i = ((decide (i < m) && decide (og i = nI a)) && !cb_bit (K b) i) := fun i => by rw [cb_andnot, R.2.2.2 a ha i]
      have bt : ∀ i, cb_bit (M a &&& (K b ^^^ (-1))) i = true → i < m ∧ og i = nI a ∧ cb_bit (K b) i = false := by
        intro i hi
        rw [bits i] at hi
        simp only [Bool.and_eq_true, decide_eq_true_eq, Bool.not_eq_true'] at hi
        exact ⟨hi.1.1, hi.1.2, hi.2⟩
      have bf : ∀ i, i < m → cb_bit (M a &&& (K b ^^^ (-1))) i = false → ¬ (og i = nI a ∧ cb_bit (K b) i = false) := by
        intro i hm hi ⟨h1, h2⟩
        rw [bits i, decide_eq_true hm, decide_eq_true h1, h2] at hi
        cases hi
      refine xr_t ha (br_f cx_n10 (xr_t hb (br_f cx_n10 ⟨cx_in3 ha, cx_in3 hb, ?_⟩)))
      rw [ea, eb]
      generalize M a &&& (K b ^^^ (-1)) = U at bits bt bf
      refine nm_e (br_c (fun z => ?_) (fun z => nm_e ?_))
      · refine yr_t ha (br_t rfl (yr_t hb (br_t rfl (yd_none R.1 hb (fun j hj => bf j hj ?_) D))))
        rw [z]; exact cb_0 j
      · have ex : ∃ i, i < 64 ∧ cb_bit U i = true := by
          refine Classical.byContradiction (fun y => z (cb_zero.mpr (fun i hi => cb_ft (fun q => y ⟨i, hi, q⟩))))
        obtain ⟨c, hc64, hc, hl⟩ := cb_least 64 ex
        obtain ⟨hcm, ho, hn⟩ := bt c hc
        have hcl : ∀ j, j < c → ¬ (og j = nI a ∧ cb_bit (K b) j = false) := fun j hj => bf j (by omega) (hl j hj)
        have eo : U &&& (-U) = (1 : Int64) <<< ((nI c).toInt64 &&& 63) := cb_ext (fun i _ => by rw [cb_lowest hc hl i, cb_one hc64])
        have hc48 : c < 48 := Nat.lt_of_lt_of_le hcm R.1
        rw [eo]
        refine xh_pastsOf ⟨cx_in3 hb, ?_⟩
        have ep : cb_gat (cb_bit ((1 : Int64) <<< ((nI c).toInt64 &&& 63))) P 48 = P c := by
          apply cb_ext
          intro j _
          rw [cb_gat_bit]
          cases e : cb_bit (P c) j
          · rw [cb_any_f]
            intro i _
            show (cb_bit _ i && cb_bit (P i) j) = false
            rw [cb_one hc64]
            by_cases y : i = c
            · rw [y, e, Bool.and_false]
            · rw [decide_eq_false y, Bool.false_and]
          · rw [cb_any_t]
            refine ⟨c, hc48, ?_⟩
            show (cb_bit _ c && cb_bit (P c) j) = true
            rw [cb_one hc64, e, decide_eq_true rfl, Bool.true_and]
        rw [ep]
        refine br_c (fun y => ⟨cx_in3 hb, cx_in3 hb, nm_e ?_⟩) (fun y => ?_)
        · refine yr_t ha (br_t rfl (yr_t hb (br_t rfl (yd_hit R.1 hb hcm ⟨ho, hn⟩ hcl (fun _ => ⟨rfl, m, so, s, w, og, P, _, M, rfl, rfl, cs_RK R b (fun i hi => ?_)⟩) (fun q => absurd y q)))))
          rw [cb_or, R.2.2.1 b hb i hi, cb_one hc64, decide_eq_false (by omega)]
          rfl
        · exact yr_t ha (br_t rfl (yr_t hb (br_t rfl (yd_hit R.1 hb hcm ⟨ho, hn⟩ hcl (fun q => absurd q y) (fun _ => D)))))
