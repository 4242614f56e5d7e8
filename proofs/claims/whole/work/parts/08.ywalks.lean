/-! Y's private methods and loops, each with a general post -/
theorem yr_t {post : Int32 → Prop} {r : Nat} (hr : r < 3) (h : post 0) : wpY_bad post (nI r) :=
  br_f (nI_pos (by omega)) (br_t (nI_le (b := 2) (by omega) (by decide)) h)
theorem yr_f {post : Int32 → Prop} {x : Int32} (hx : x < 0 ∨ 3 ≤ x) (h : post 1) : wpY_bad post x := by
  refine br_c (fun _ => h) (fun z => br_f (fun y => ?_) h)
  exact cb_lirr x (Int32.lt_of_lt_of_le (Int32.lt_of_le_of_lt y (by decide)) (hx.resolve_left z))
theorem cb_srch {W : Nat → Nat → Prop} {p : Nat → Bool} {e : Nat} {A B : Prop} (hx : ∀ n, B → W (n + 1) e) (hs : ∀ n i, i < e → (p i = true → A) → (p i = false → W n (i + 1)) → W (n + 1) i) (hA : cb_any p e = true → A) (hB : cb_any p e = false → B) : ∃ n, W n 0 := by
  have key : ∀ k i, i + k = e → (∀ j, j < i → p j = false) → W (k + 1) i := by
    intro k
    induction k with
    | zero =>
      intro i hi hp
      have : i = e := by omega
      subst this
      exact hx 0 (hB (cb_any_f.mpr hp))
    | succ k ih =>
      intro i hi hp
      refine hs (k + 1) i (by omega) (fun z => hA (cb_any_t.mpr ⟨i, by omega, z⟩)) (fun z => ih (i + 1) (by omega) (fun j hj => ?_))
      rcases Nat.lt_or_ge j i with y | y
      · exact hp j y
      · have : j = i := by omega
        rw [this]; exact z
  exact ⟨e + 1, key e 0 (by omega) (fun j hj => absurd hj (Nat.not_lt_zero j))⟩
theorem cb_reach {W : Nat → Nat → Prop} {c : Nat} (hx : ∀ n, W (n + 1) c) (hs : ∀ n i, i < c → W n (i + 1) → W (n + 1) i) : ∃ n, W n 0 := by
  have key : ∀ k i, i + k = c → W (k + 1) i := by
    intro k
    induction k with
    | zero =>
      intro i hi
      have : i = c := by omega
      subst this
      exact hx 0
    | succ k ih =>
      intro i hi
      exact hs (k + 1) i (by omega) (ih (i + 1) (by omega))
  exact ⟨c + 1, key c 0 (by omega)⟩
theorem cb_least {p : Nat → Bool} : ∀ n, (∃ i, i < n ∧ p i = true) → ∃ c, c < n ∧ p c = true ∧ ∀ j, j < c → p j = false := by
  intro n
  induction n with
  | zero => rintro ⟨i, h, _⟩; exact absurd h (Nat.not_lt_zero i)
  | succ n ih =>
    rintro ⟨i, h, e⟩
    by_cases z : ∃ i, i < n ∧ p i = true
    · obtain ⟨c, a, b, d⟩ := ih z
      exact ⟨c, by omega, b, d⟩
    · have : i = n := by
        rcases Nat.lt_or_ge i n with y | y
        · exact absurd ⟨i, y, e⟩ z
        · omega
      subst this
      exact ⟨i, h, e, fun j hj => cb_ft (fun y => z ⟨j, hj, y⟩)⟩
theorem cy_m {m i : Nat} (hm : m ≤ 48) (h : i < m) : ¬ nI m ≤ nI i := nI_ge h (by omega)
theorem cy_me {m : Nat} (hm : m ≤ 48) : nI m ≤ nI m := nI_le (Nat.le_refl m) (by omega)
section
variable {m : Nat} {f : Int32} {s w og : Nat → Int32} {P K : Nat → Int64}
theorem ys_61 {post : Int32 → Prop} {J : Int32 → Prop} {x1 x2 : Int32} {i : Nat} (h : J (nI (i + 1))) : wY_stands_61 post J x1 x2 (nI i) f s w og P K :=
  br_t rfl (br_t rfl (br_t rfl (nm_r (nI_1 i) h)))
theorem ys_122 {post : Int32 → Prop} {J : Int32 → Prop} {x1 : Int32} {c i : Nat} (hc : c < 48) (hi : i < 48) (hA : s c = 2 → s i = 2 → post 0) (hB : ¬ (s c = 2 ∧ s i = 2) → J (nI (i + 1))) : wY_stands_122 post J x1 (nI c) (nI i) 1 f s w og P K := by
  refine br_f cx_n10 ⟨cx_in hc, ?_⟩
  rw [cx_ci hc, cx_ci hi]
  exact br_c (fun z => ⟨cx_in hi, br_c (fun y => hA z y) (fun y => nm_r (nI_1 i) (hB (fun q => y q.2)))⟩) (fun z => nm_r (nI_1 i) (hB (fun q => z q.1)))
theorem ys_81 {post : Int32 → Prop} {J : Int32 → Prop} {x1 : Int32} {c i : Nat} (hc : c < 48) (hi : i < 48) (hA : s c = 0 → s i = 1 → w i = w c → post 0) (hB : ¬ (s c = 0 ∧ s i = 1 ∧ w i = w c) → wY_stands_122 post J x1 (nI c) (nI i) 1 f s w og P K) : wY_stands_81 post J x1 (nI c) (nI i) 1 f s w og P K := by
  refine br_f cx_n10 ⟨cx_in hc, ?_⟩
  rw [cx_ci hc, cx_ci hi]
  exact br_c (fun z => ⟨cx_in hi, br_c (fun y => ⟨cx_in hi, cx_in hc, br_c (fun x => hA z y x) (fun x => hB (fun q => x q.2.2))⟩) (fun y => hB (fun q => y q.2.1))⟩) (fun z => hB (fun q => z q.1))
theorem ys_62 {post : Int32 → Prop} {J : Int32 → Prop} {x1 : Int32} {c i : Nat} (hc : c < 48) (hi : i < 48) (hA : ((decide (s i = 4) || ((decide (s c = 0) && decide (s i = 1)) && decide (w i = w c))) || (decide (s c = 2) && decide (s i = 2))) = true → post 0) (hB : ((decide (s i = 4) || ((decide (s c = 0) && decide (s i = 1)) && decide (w i = w c))) || (decide (s c = 2) && decide (s i = 2))) = false → J (nI (i + 1))) : wY_stands_62 post J x1 (nI c) (nI i) 1 f s w og P K := by
  refine br_f cx_n10 ⟨cx_in hi, ?_⟩
  rw [cx_ci hi]
  refine br_c (fun z => hA ?_) (fun z => ys_81 hc hi (fun a b d => hA ?_) (fun y => ys_122 hc hi (fun a b => hA ?_) (fun q => hB ?_)))
  · rw [decide_eq_true z, Bool.true_or, Bool.true_or]
  · rw [decide_eq_true a, decide_eq_true b, decide_eq_true d]
    simp
  · rw [decide_eq_true a, decide_eq_true b]
    simp
  · simp only [Bool.or_eq_false_iff, Bool.and_eq_false_imp, decide_eq_true_eq, decide_eq_false_iff_not, Bool.and_eq_true]
    exact ⟨⟨z, fun ⟨a, b⟩ d => y ⟨a, b, d⟩⟩, fun a b => q ⟨a, b⟩⟩
theorem yh_stands {post : Int32 → Prop} {r c : Nat} (hm : m ≤ 48) (hr : r < 3) (hc : c < 48) (ht : cs_st (K r) P s w m c = true → post 1) (hf : cs_st (K r) P s w m c = false → post 0) : wpY_stands post (nI m, s, w, og, P, K) (nI r) (nI c) := by
  have er : (nI r).toNatClampNeg = r := nI_clamp (by omega)
  refine ⟨cx_in3 hr, ?_⟩
  rw [er, cb_sshr (by omega), cb_b0]
  refine br_c (fun z => hf ?_) (fun z => ?_)
  · unfold cs_st
    rw [z, Bool.false_and]
  · have z' := cb_tf z
    unfold cs_st at ht hf
    rw [z', Bool.true_and] at ht hf
    refine cb_srch (W := fun n i => wY_stands_19 post (nI r) (nI c) (nI m) s w og P K n (nI i)) (p := cs_kill (K r) P s w c) (e := m) (A := post 0) (B := post 1) (fun n hB => br_t (cy_me hm) hB) (fun n i hi hA hB => ?_) (fun y => hf (by rw [y]; rfl)) (fun y => ht (by rw [y]; rfl))
    have hi' : i < 48 := by omega
    refine br_f (cy_m hm hi) ⟨cx_in3 hr, ?_⟩
    rw [er, cb_sshr (by omega), cb_b1]
    unfold cs_kill at hA hB
    refine br_c (fun a => ⟨cx_in hi', ?_⟩) (fun a => ys_61 (hB ?_))
    · rw [cx_ci hi', cb_sshr (by omega), cb_b1]
      refine br_c (fun b => ?_) (fun b => ys_61 (hB ?_))
      · rw [a, b, Bool.true_and, Bool.true_and] at hA hB
        exact ys_62 hc hi' hA hB
      · rw [cb_ft b, Bool.and_false, Bool.false_and]
    · rw [cb_ft a, Bool.false_and, Bool.false_and]
theorem yh_has {post : Int32 → Prop} {r : Nat} {e : Int32} (hm : m ≤ 48) (hr : r < 3) (ht : cb_any (fun c => (decide (s c = 0) && decide (w c = e &&& 7)) && cs_st (K r) P s w m c) m = true → post 1) (hf : cb_any (fun c => (decide (s c = 0) && decide (w c = e &&& 7)) && cs_st (K r) P s w m c) m = false → post 0) : ∃ n, wY_has_11 post (nI r) e (nI m) s w og P K n 0 := by
  refine cb_srch (W := fun n i => wY_has_11 post (nI r) e (nI m) s w og P K n (nI i)) (fun n hB => br_t (cy_me hm) hB) (fun n i hi hA hB => ?_) ht hf
  have hi' : i < 48 := by omega
  refine br_f (cy_m hm hi) ⟨cx_in hi', ?_⟩
  rw [cx_ci hi']
  refine br_c (fun a => ⟨cx_in hi', br_c (fun b => yh_stands hm hr hi' (fun z => br_f cx_n10 (hA ?_)) (fun z => br_t rfl (nm_r (nI_1 i) (hB ?_)))) (fun b => nm_r (nI_1 i) (hB ?_))⟩) (fun a => nm_r (nI_1 i) (hB ?_))
  · rw [decide_eq_true a, decide_eq_true b, z]; rfl
  · rw [z, Bool.and_false]
  · rw [decide_eq_false b, Bool.and_false, Bool.false_and]
  · rw [decide_eq_false a, Bool.false_and, Bool.false_and]
theorem yh_values {post : Int32 → Prop} {r : Nat} (hm : m ≤ 48) (hr : r < 3) (h : post (nI (cb_cnt (fun c => decide (s c = 2) && cs_st (K r) P s w m c) m))) : ∃ n, wY_values_13 post (nI r) (nI m) s w og P K n 0 0 := by
  refine loop_0 (fun n i x => wY_values_13 post (nI r) (nI m) s w og P K n x (nI i)) (fun i x => x = nI (cb_cnt (fun c => decide (s c = 2) && cs_st (K r) P s w m c) i)) m 0 rfl ?_ ?_
  · rintro n x rfl
    exact br_t (cy_me hm) h
  · rintro n i x hi rfl ih
    have hi' : i < 48 := by omega
    refine br_f (cy_m hm hi) ⟨cx_in hi', ?_⟩
    rw [cx_ci hi']
    refine br_c (fun a => yh_stands hm hr hi' (fun z => br_f cx_n10 (nm_r (cb_cnt_s ?_) (nm_r (nI_1 i) (ih _ rfl)))) (fun z => br_t rfl (nm_r (nI_1 i) (ih _ (cb_cnt_k ?_))))) (fun a => nm_r (nI_1 i) (ih _ (cb_cnt_k ?_)))
    · rw [decide_eq_true a, z]; rfl
    · rw [z, Bool.and_false]
    · rw [decide_eq_false a, Bool.false_and]
theorem yh_total {post : Int32 → Prop} {r : Nat} (hm : m ≤ 48) (hr : r < 3) (h : post (cb_sum (fun c => decide (s c = 3) && cs_st (K r) P s w m c) w m)) : ∃ n, wY_total_13 post (nI r) (nI m) s w og P K n 0 0 := by
  refine loop_0 (fun n i x => wY_total_13 post (nI r) (nI m) s w og P K n x (nI i)) (fun i x => x = cb_sum (fun c => decide (s c = 3) && cs_st (K r) P s w m c) w i) m 0 rfl ?_ ?_
  · rintro n x rfl
    exact br_t (cy_me hm) h
  · rintro n i x hi rfl ih
    have hi' : i < 48 := by omega
    refine br_f (cy_m hm hi) ⟨cx_in hi', ?_⟩
    rw [cx_ci hi']
    refine br_c (fun a => yh_stands hm hr hi' (fun z => br_f cx_n10 ⟨cx_in hi', nm_r (cb_sum_s ?_) (nm_r (nI_1 i) (ih _ rfl))⟩) (fun z => br_t rfl (nm_r (nI_1 i) (ih _ (cb_sum_k ?_))))) (fun a => nm_r (nI_1 i) (ih _ (cb_sum_k ?_)))
    · rw [decide_eq_true a, z]; rfl
    · rw [z, Bool.and_false]
    · rw [decide_eq_false a, Bool.false_and]
theorem yh_known {post : Int32 → Prop} {r o : Nat} (hm : m ≤ 48) (hr : r < 3) (h : post (nI (cb_cnt (fun c => decide (og c = nI o) && cb_bit (K r) c) m))) : ∃ n, wY_known_21 post (nI r) (nI o) (nI m) s w og P K n 0 0 := by
  have er : (nI r).toNatClampNeg = r := nI_clamp (by omega)
  refine loop_0 (fun n i x => wY_known_21 post (nI r) (nI o) (nI m) s w og P K n x (nI i)) (fun i x => x = nI (cb_cnt (fun c => decide (og c = nI o) && cb_bit (K r) c) i)) m 0 rfl ?_ ?_
  · rintro n x rfl
    exact br_t (cy_me hm) h
  · rintro n i x hi rfl ih
    have hi' : i < 48 := by omega
    refine br_f (cy_m hm hi) ⟨cx_in hi', ?_⟩
    rw [cx_ci hi']
    refine br_c (fun a => ⟨cx_in3 hr, ?_⟩) (fun a => nm_r (nI_1 i) (ih _ (cb_cnt_k ?_)))
    · rw [er, cb_sshr (by omega), cb_b1]
      refine br_c (fun b => nm_r (cb_cnt_s ?_) (nm_r (nI_1 i) (ih _ rfl))) (fun b => nm_r (nI_1 i) (ih _ (cb_cnt_k ?_)))
      · rw [decide_eq_true a, b]; rfl
      · rw [cb_ft b, Bool.and_false]
    · rw [decide_eq_false a, Bool.false_and]
/-- one turn of under behind its test -/
theorem yh_under46 {post : Int32 → Prop} {J : Int32 → Int32 → Prop} {x2 x3 x : Int32} {r i : Nat} (hm : m ≤ 48) (hr : r < 3) (hi : i < 48) {z : Bool} (ht : ((decide (s i = 2) && cs_st (K r) P s w m i) && z) = true → J (x + 1) (nI (i + 1))) (hf : ((decide (s i = 2) && cs_st (K r) P s w m i) && z) = false → J x (nI (i + 1))) : wY_under_46 post J (nI r) x2 x3 x (nI i) (if z = true then 1 else 0) (nI m) s w og P K := by
  refine ⟨cx_in hi, ?_⟩
  rw [cx_ci hi]
  refine br_c (fun a => ?_) (fun a => nm_r (nI_1 i) (hf ?_))
  · cases z
    · exact br_t rfl (nm_r (nI_1 i) (hf (by rw [Bool.and_false])))
    · refine br_f cx_n10 (yh_stands hm hr hi (fun b => br_f cx_n10 (nm_e (nm_r (nI_1 i) (ht ?_)))) (fun b => br_t rfl (nm_r (nI_1 i) (hf ?_))))
      · rw [decide_eq_true a, b]; rfl
      · rw [b, Bool.and_false, Bool.false_and]
  · rw [decide_eq_false a, Bool.false_and, Bool.false_and]
theorem yh_under {post : Int32 → Prop} {v : Int32} {q : Bool} {r : Nat} (hm : m ≤ 48) (hr : r < 3) (h : post (nI (cb_cnt (fun c => (decide (s c = 2) && cs_st (K r) P s w m c) && (decide (w c < v) || (q && decide (w c = v)))) m))) : wpY_under post (nI m, s, w, og, P, K) (nI r) v (if q = true then 1 else 0) := by
  refine loop_0 (fun n i x => wY_under_6 post (nI r) v (if q = true then 1 else 0) (nI m) s w og P K n x (nI i)) (fun i x => x = nI (cb_cnt (fun c => (decide (s c = 2) && cs_st (K r) P s w m c) && (decide (w c < v) || (q && decide (w c = v)))) i)) m 0 rfl ?_ ?_
  · rintro n x rfl
    exact br_t (cy_me hm) h
  · rintro n i x hi rfl ih
    have hi' : i < 48 := by omega
    have key : ∀ z : Bool, z = (decide (w i < v) || (q && decide (w i = v))) → wY_under_46 post (wY_under_6 post (nI r) v (if q = true then 1 else 0) (nI m) s w og P K n) (nI r) v (if q = true then 1 else 0) (nI (cb_cnt (fun c => (decide (s c = 2) && cs_st (K r) P s w m c) && (decide (w c < v) || (q && decide (w c = v)))) i)) (nI i) (if z = true then 1 else 0) (nI m) s w og P K := by
      intro z ez
      subst ez
      exact yh_under46 hm hr hi' (fun y => ih _ (cb_cnt_s (p := fun c => (decide (s c = 2) && cs_st (K r) P s w m c) && (decide (w c < v) || (q && decide (w c = v)))) y)) (fun y => ih _ (cb_cnt_k (p := fun c => (decide (s c = 2) && cs_st (K r) P s w m c) && (decide (w c < v) || (q && decide (w c = v)))) y))
    refine br_f (cy_m hm hi) ⟨cx_in hi', ?_⟩
    rw [cx_ci hi']
    refine br_c (fun a => key true (by rw [decide_eq_true a, Bool.true_or])) (fun a => ?_)
    cases q
    · exact br_t rfl (key false (by rw [decide_eq_false a]; rfl))
    · refine br_f cx_n10 ⟨cx_in hi', br_c (fun b => key true ?_) (fun b => key false ?_)⟩
      · rw [decide_eq_true b]; simp
      · rw [decide_eq_false a, decide_eq_false b]; rfl
theorem yh_value {post : Int32 → Prop} {place : Int32} {r : Nat} (hm : m ≤ 48) (hr : r < 3) (h : post (cb_fst (fun c => (decide (s c = 2) && cs_st (K r) P s w m c) && (decide (nI (cb_lo (fun c => decide (s c = 2) && cs_st (K r) P s w m c) w (w c) m) ≤ place) && decide (place < nI (cb_hi (fun c => decide (s c = 2) && cs_st (K r) P s w m c) w (w c) m)))) w m 0)) : ∃ n, wY_value_11 post (nI r) place (nI m) s w og P K n 0 := by
  refine cb_srchF (W := fun n i => wY_value_11 post (nI r) place (nI m) s w og P K n (nI i)) (fun n hp => br_t (cy_me hm) hp) (fun n i hi hp hn => ?_) h
  have hi' : i < 48 := by omega
  have elo : cb_cnt (fun c => (decide (s c = 2) && cs_st (K r) P s w m c) && (decide (w c < w i) || (false && decide (w c = w i)))) m = cb_lo (fun c => decide (s c = 2) && cs_st (K r) P s w m c) w (w i) m :=
    cb_cnt_eq (fun c _ => by show (_ && (_ || (false && _))) = (_ && _); rw [Bool.false_and, Bool.or_false])
  have ehi : cb_cnt (fun c => (decide (s c = 2) && cs_st (K r) P s w m c) && (decide (w c < w i) || (true && decide (w c = w i)))) m = cb_hi (fun c => decide (s c = 2) && cs_st (K r) P s w m c) w (w i) m :=
    cb_cnt_eq (fun c _ => by show (_ && (_ || (true && _))) = (_ && (_ || _)); rw [Bool.true_and])
  refine br_f (cy_m hm hi) ⟨cx_in hi', ?_⟩
  rw [cx_ci hi']
  refine br_c (fun a => yh_stands hm hr hi' (fun z => br_f cx_n10 ⟨cx_in hi', ?_⟩) (fun z => br_t rfl (nm_r (nI_1 i) (hn ?_)))) (fun a => nm_r (nI_1 i) (hn ?_))
  · refine yh_under (q := false) hm hr ⟨cx_in hi', yh_under (q := true) hm hr ?_⟩
    rw [elo, ehi]
    refine br_c (fun b => nm_r (nI_1 i) (hn ?_)) (fun b => br_c (fun d => nm_r (nI_1 i) (hn ?_)) (fun d => ⟨cx_in hi', ?_⟩))
    · rw [decide_eq_false (Int32.not_le.mpr b), Bool.false_and, Bool.and_false]
    · rw [decide_eq_false (Int32.not_lt.mpr d), Bool.and_false, Bool.and_false]
    · apply hp
      rw [decide_eq_true a, z, decide_eq_true (Int32.not_lt.mp b), decide_eq_true (Int32.not_le.mp d)]
      rfl
  · rw [z, Bool.and_false, Bool.false_and]
  · rw [decide_eq_false a, Bool.false_and, Bool.false_and]
end
