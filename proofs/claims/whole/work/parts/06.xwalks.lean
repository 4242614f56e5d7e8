/-! X's private methods, each with a general post -/
theorem cb_tf {b : Bool} (h : ¬ b = false) : b = true := by
  cases b
  · exact absurd rfl h
  · rfl
theorem cb_ft {b : Bool} (h : ¬ b = true) : b = false := by
  cases b
  · rfl
  · exact absurd rfl h
theorem cx_rep (x : Int32) : (x < 0 ∨ 3 ≤ x) ∨ ∃ r : Nat, r < 3 ∧ x = nI r := by
  by_cases h0 : x < 0
  · exact Or.inl (Or.inl h0)
  · by_cases h3 : 3 ≤ x
    · exact Or.inl (Or.inr h3)
    · obtain ⟨j, hj, rfl⟩ := nI_of h0
      refine Or.inr ⟨j, ?_, rfl⟩
      rcases Nat.lt_or_ge j 3 with z | z
      · exact z
      · exact absurd (nI_le (a := 3) z hj) h3
theorem xr_t {post : Int32 → Prop} {r : Nat} (hr : r < 3) (h : post 1) : wpX_isReplica post (nI r) :=
  br_f (nI_pos (by omega)) (br_f (nI_ge (b := 3) hr (by decide)) h)
theorem xr_f {post : Int32 → Prop} {x : Int32} (hx : x < 0 ∨ 3 ≤ x) (h : post 0) : wpX_isReplica post x :=
  br_c (fun _ => h) (fun z => br_t (hx.resolve_left z) h)
theorem xh_holds {post : Int32 → Prop} {x : Int64} {i : Nat} (hi : i < 64) (ht : cb_bit x i = true → post 1) (hf : cb_bit x i = false → post 0) : wpX_holds post x (nI i) := by
  unfold wpX_holds
  rw [cb_ushr hi, cb_b0]
  exact br_c hf (fun h => ht (cb_tf h))
theorem cx_48 {i : Nat} (h : i < 48) : ¬ (48 : Int32) ≤ nI i := nI_ge (b := 48) h (by decide)
theorem cx_48e : (48 : Int32) ≤ nI 48 := by decide
theorem cx_ci {i : Nat} (h : i < 48) : (nI i).toNatClampNeg = i := nI_clamp (by omega)
theorem cx_in {i : Nat} (h : i < 48) : vp_in (nI i) 48 := vp_in_nI h (by omega)
theorem cx_in3 {r : Nat} (h : r < 3) : vp_in (nI r) 3 := vp_in_nI h (by omega)
theorem cx_n10 : ¬ (1 : Int32) = 0 := by decide
theorem cb_gat_s {p : Nat → Bool} {f : Nat → Int64} {i : Nat} (h : p i = true) : cb_gat p f i ||| f i = cb_gat p f (i + 1) := (if_pos h).symm
theorem cb_gat_k {p : Nat → Bool} {f : Nat → Int64} {i : Nat} (h : p i = false) : cb_gat p f i = cb_gat p f (i + 1) := (if_neg (fun z => by rw [h] at z; cases z)).symm
theorem cb_cnt_s {p : Nat → Bool} {i : Nat} (h : p i = true) : nI (cb_cnt p i) + 1 = nI (cb_cnt p (i + 1)) := by
  rw [nI_1]
  exact congrArg nI (if_pos h).symm
theorem cb_cnt_k {p : Nat → Bool} {i : Nat} (h : p i = false) : nI (cb_cnt p i) = nI (cb_cnt p (i + 1)) := congrArg nI (if_neg (fun z => by rw [h] at z; cases z)).symm
theorem cb_sum_s {p : Nat → Bool} {f : Nat → Int32} {i : Nat} (h : p i = true) : cb_sum p f i + f i = cb_sum p f (i + 1) := (if_pos h).symm
theorem cb_sum_k {p : Nat → Bool} {f : Nat → Int32} {i : Nat} (h : p i = false) : cb_sum p f i = cb_sum p f (i + 1) := (if_neg (fun z => by rw [h] at z; cases z)).symm
section
variable {f : Int32} {so w : Nat → Int32} {P K M : Nat → Int64}
theorem xh_pastsOf {post : Int64 → Prop} {x : Int64} (h : post (cb_gat (cb_bit x) P 48)) : wpX_pastsOf post (f, so, w, P, K, M) x := by
  refine loop_0 (fun n i s => wX_pastsOf_5 post x f so w P K M n s (nI i)) (fun i s => s = cb_gat (cb_bit x) P i) 48 0 rfl ?_ ?_
  · rintro n s rfl
    exact br_t cx_48e h
  · rintro n i s hi rfl ih
    refine br_f (cx_48 hi) (xh_holds (by omega) (fun e => ?_) (fun e => ?_))
    · refine br_f cx_n10 ⟨cx_in hi, ?_⟩
      rw [cx_ci hi]
      exact nm_r (cb_gat_s e) (nm_r (nI_1 i) (ih _ rfl))
    · exact br_t rfl (nm_r (nI_1 i) (ih _ (cb_gat_k e)))
theorem xh_sort {post : Int64 → Prop} {r : Nat} {t : Int32} (hr : r < 3) (h : post (cb_gat (fun j => cb_bit (K r) j && decide (so j = t)) (fun i => (1 : Int64) <<< ((nI i).toInt64 &&& 63)) 48)) : wpX_knownOfSort post (f, so, w, P, K, M) (nI r) t := by
  refine loop_0 (fun n i s => wX_knownOfSort_5 post (nI r) t f so w P K M n s (nI i)) (fun i s => s = cb_gat (fun j => cb_bit (K r) j && decide (so j = t)) (fun i => (1 : Int64) <<< ((nI i).toInt64 &&& 63)) i) 48 0 rfl ?_ ?_
  · rintro n s rfl
    exact br_t cx_48e h
  · rintro n i s hi rfl ih
    have er : (nI r).toNatClampNeg = r := nI_clamp (by omega)
    refine br_f (cx_48 hi) ⟨cx_in3 hr, ?_⟩
    rw [er]
    refine xh_holds (by omega) (fun e => ?_) (fun e => ?_)
    · refine br_f cx_n10 ⟨cx_in hi, ?_⟩
      rw [cx_ci hi]
      refine br_c (fun z => ?_) (fun z => ?_)
      · refine nm_r (cb_gat_s (f := fun i => (1 : Int64) <<< ((nI i).toInt64 &&& 63)) ?_) (nm_r (nI_1 i) (ih _ rfl))
        show (cb_bit (K r) i && decide (so i = t)) = true
        rw [e, decide_eq_true z, Bool.true_and]
      · refine nm_r (nI_1 i) (ih _ (cb_gat_k ?_))
        show (cb_bit (K r) i && decide (so i = t)) = false
        rw [decide_eq_false z, Bool.and_false]
    · refine br_t rfl (nm_r (nI_1 i) (ih _ (cb_gat_k ?_)))
      show (cb_bit (K r) i && decide (so i = t)) = false
      rw [e, Bool.false_and]
theorem xh_elem {post : Int64 → Prop} {x : Int64} {e : Int32} (h : post (cb_gat (fun j => cb_bit x j && decide (w j = e)) (fun i => (1 : Int64) <<< ((nI i).toInt64 &&& 63)) 48)) : ∃ n, wX_knownOfElement_14 post e x f so w P K M n 0 0 := by
  refine loop_0 (fun n i s => wX_knownOfElement_14 post e x f so w P K M n s (nI i)) (fun i s => s = cb_gat (fun j => cb_bit x j && decide (w j = e)) (fun i => (1 : Int64) <<< ((nI i).toInt64 &&& 63)) i) 48 0 rfl ?_ ?_
  · rintro n s rfl
    exact br_t cx_48e h
  · rintro n i s hi rfl ih
    refine br_f (cx_48 hi) ?_
    refine xh_holds (by omega) (fun y => ?_) (fun y => ?_)
    · refine br_f cx_n10 ⟨cx_in hi, ?_⟩
      rw [cx_ci hi]
      refine br_c (fun z => ?_) (fun z => ?_)
      · refine nm_r (cb_gat_s (f := fun i => (1 : Int64) <<< ((nI i).toInt64 &&& 63)) ?_) (nm_r (nI_1 i) (ih _ rfl))
        show (cb_bit x i && decide (w i = e)) = true
        rw [y, decide_eq_true z, Bool.true_and]
      · refine nm_r (nI_1 i) (ih _ (cb_gat_k ?_))
        show (cb_bit x i && decide (w i = e)) = false
        rw [decide_eq_false z, Bool.and_false]
    · refine br_t rfl (nm_r (nI_1 i) (ih _ (cb_gat_k ?_)))
      show (cb_bit x i && decide (w i = e)) = false
      rw [y, Bool.false_and]
theorem xh_sizeOf {post : Int32 → Prop} {x : Int64} (h : post (nI (cb_cnt (cb_bit x) 48))) : wpX_sizeOf post x := by
  refine loop_0 (fun n i s => wX_sizeOf_4 post x n s (nI i)) (fun i s => s = nI (cb_cnt (cb_bit x) i)) 48 0 rfl ?_ ?_
  · rintro n s rfl
    exact br_t cx_48e h
  · rintro n i s hi rfl ih
    refine br_f (cx_48 hi) (xh_holds (by omega) (fun e => ?_) (fun e => ?_))
    · exact br_f cx_n10 (nm_r (cb_cnt_s e) (nm_r (nI_1 i) (ih _ rfl)))
    · exact br_t rfl (nm_r (nI_1 i) (ih _ (cb_cnt_k e)))
theorem xh_sumOf {post : Int32 → Prop} {x : Int64} (h : post (cb_sum (cb_bit x) w 48)) : wpX_sumOf post (f, so, w, P, K, M) x := by
  refine loop_0 (fun n i s => wX_sumOf_5 post x f so w P K M n s (nI i)) (fun i s => s = cb_sum (cb_bit x) w i) 48 0 rfl ?_ ?_
  · rintro n s rfl
    exact br_t cx_48e h
  · rintro n i s hi rfl ih
    refine br_f (cx_48 hi) (xh_holds (by omega) (fun e => ?_) (fun e => ?_))
    · refine br_f cx_n10 ⟨cx_in hi, ?_⟩
      rw [cx_ci hi]
      exact nm_r (cb_sum_s e) (nm_r (nI_1 i) (ih _ rfl))
    · exact br_t rfl (nm_r (nI_1 i) (ih _ (cb_sum_k e)))
/-- one turn of placeOf behind its test: z says whether i stands ahead of c -/
theorem xh_place56 {post : Int32 → Prop} {J : Int32 → Int32 → Prop} {x : Int64} {c s : Int32} {i : Nat} (hi : i < 48) {z : Bool} (ht : (cb_bit x i && z) = true → J (s + 1) (nI (i + 1))) (hf : (cb_bit x i && z) = false → J s (nI (i + 1))) : wX_placeOf_56 post J x c s (nI i) (if z = true then 1 else 0) f so w P K M := by
  refine xh_holds (by omega) (fun e => ?_) (fun e => ?_)
  · rw [e, Bool.true_and] at ht hf
    cases z
    · exact br_f cx_n10 (br_t rfl (nm_r (nI_1 i) (hf rfl)))
    · exact br_f cx_n10 (br_f cx_n10 (nm_e (nm_r (nI_1 i) (ht rfl))))
  · exact br_t rfl (nm_r (nI_1 i) (hf (by rw [e, Bool.false_and])))
theorem xh_placeOf {post : Int32 → Prop} {x : Int64} {c : Nat} (hc : c < 48) (h : post (nI (cb_pl (cb_bit x) w c 48))) : wpX_placeOf post (f, so, w, P, K, M) x (nI c) := by
  refine loop_0 (fun n i s => wX_placeOf_6 post x (nI c) f so w P K M n s (nI i)) (fun i s => s = nI (cb_pl (cb_bit x) w c i)) 48 0 rfl ?_ ?_
  · rintro n s rfl
    exact br_t cx_48e h
  · rintro n i s hi rfl ih
    have key : ∀ z : Bool, z = (decide (w i < w c) || (decide (w i = w c) && decide (i < c))) → wX_placeOf_56 post (wX_placeOf_6 post x (nI c) f so w P K M n) x (nI c) (nI (cb_pl (cb_bit x) w c i)) (nI i) (if z = true then 1 else 0) f so w P K M := by
      intro z ez
      subst ez
      exact xh_place56 hi (fun y => ih _ (cb_cnt_s (p := fun j => cb_bit x j && (decide (w j < w c) || (decide (w j = w c) && decide (j < c)))) y)) (fun y => ih _ (cb_cnt_k (p := fun j => cb_bit x j && (decide (w j < w c) || (decide (w j = w c) && decide (j < c)))) y))
    refine br_f (cx_48 hi) ⟨cx_in hi, cx_in hc, ?_⟩
    rw [cx_ci hi, cx_ci hc]
    refine br_c (fun z => key true (by rw [decide_eq_true z, Bool.true_or])) (fun z => ⟨cx_in hi, cx_in hc, br_c (fun y => ?_) (fun y => key false (by rw [decide_eq_false z, decide_eq_false y, Bool.false_and, Bool.or_false]))⟩)
    refine br_c (fun q => key false ?_) (fun q => key true ?_)
    · have q' : ¬ i < c := fun a => nI_ge a (by omega) q
      rw [decide_eq_false z, decide_eq_false q', Bool.and_false, Bool.or_false]
    · have q' : i < c := by
        rcases Nat.lt_or_ge i c with a | a
        · exact a
        · exact absurd (nI_le a (by omega)) q
      rw [decide_eq_true y, decide_eq_true q', Bool.and_true, Bool.or_true]
/-- a search that ends at the first hit -/
theorem cb_srchF {W : Nat → Nat → Prop} {p : Nat → Bool} {g : Nat → Int32} {e : Nat} {post : Int32 → Prop} (hx : ∀ n, post 0 → W (n + 1) e) (hs : ∀ n i, i < e → (p i = true → post (g i)) → (p i = false → W n (i + 1)) → W (n + 1) i) (h : post (cb_fst p g e 0)) : ∃ n, W n 0 := by
  have key : ∀ k i, i + k = e → post (cb_fst p g k i) → W (k + 1) i := by
    intro k
    induction k with
    | zero =>
      intro i hi hp
      have : i = e := by omega
      subst this
      exact hx 0 hp
    | succ k ih =>
      intro i hi hp
      have hp' : post (if p i = true then g i else cb_fst p g k (i + 1)) := hp
      refine hs (k + 1) i (by omega) (fun z => ?_) (fun z => ih (i + 1) (by omega) ?_)
      · rw [if_pos z] at hp'; exact hp'
      · rw [if_neg (by rw [z]; decide)] at hp'; exact hp'
  exact ⟨e + 1, key e 0 (by omega) h⟩
theorem xh_value {post : Int32 → Prop} {x : Int64} {place : Int32} (h : post (cb_fst (fun i => cb_bit x i && decide (nI (cb_pl (cb_bit x) w i 48) = place)) w 48 0)) : ∃ n, wX_value_18 post place x f so w P K M n 0 := by
  refine cb_srchF (W := fun n i => wX_value_18 post place x f so w P K M n (nI i)) (fun n hp => br_t cx_48e hp) (fun n i hi hp hn => ?_) h
  refine br_f (cx_48 hi) (xh_holds (by omega) (fun e => ?_) (fun e => ?_))
  · refine br_f cx_n10 (xh_placeOf hi (br_c (fun z => ⟨cx_in hi, ?_⟩) (fun z => nm_r (nI_1 i) (hn ?_))))
    · rw [cx_ci hi]
      apply hp
      rw [e, decide_eq_true z, Bool.true_and]
    · rw [decide_eq_false z, Bool.and_false]
  · refine br_t rfl (nm_r (nI_1 i) (hn ?_))
    rw [e, Bool.false_and]
end
