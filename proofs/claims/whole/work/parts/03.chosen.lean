/-! isColumn, isWithin / isMet, isChosen on both sides -/
variable {n m : Nat} {fp : Int32} {xv xp xt yv yp yt d cc cl ch : Nat → Int32} {V P : Nat → Nat → Int32}
theorem jx_col {post : Int32 → Prop} {x : Int32} (h0 : x < 0 ∨ 3 ≤ x → post 0) (h1 : ∀ c, c < 3 → x = nI c → post 1) : wpX_isColumn post (nI n, fp, nI m, xv, xp, xt, d, cc, cl, ch) x := by
  by_cases a : x < 0
  · exact br_t a (h0 (Or.inl a))
  · by_cases b : 3 ≤ x
    · exact br_f a (br_t b (h0 (Or.inr b)))
    · obtain ⟨j, hj, e⟩ := nI_of a
      refine br_f a (br_f b (h1 j ?_ e))
      rw [e] at b
      have : ¬ nI 3 ≤ nI j := b
      rw [nI_leI (by decide) hj] at this
      omega
theorem jy_col {post : Int32 → Prop} {x : Int32} (h0 : x < 0 ∨ 3 ≤ x → post 0) (h1 : ∀ c, c < 3 → x = nI c → post 1) : wpY_isColumn post (nI n, fp, nI m, yv, yp, yt, d, cc, cl, ch) x := by
  by_cases a : x < 0
  · exact br_t a (h0 (Or.inl a))
  · obtain ⟨j, hj, e⟩ := nI_of a
    refine br_f a ?_
    rw [e]
    refine pk_lt 2 j (fun h => h0 (Or.inr ?_)) (fun h => h1 j (by omega) e)
    rw [e]
    exact nI_le (a := 3) (by omega) hj
theorem jx_within {post : Int32 → Prop} {j : Nat} {x : Int32} (hj : j < 4) (h : post (pb_I (pu_met cl ch j x))) : wpX_isWithin post (nI n, fp, nI m, xv, xp, xt, d, cc, cl, ch) (nI j) x := by
  have hi : vp_in (nI j) 4 := vp_in_nI hj (by decide)
  have hc : (nI j).toNatClampNeg = j := nI_clamp (by omega)
  refine ⟨hi, ?_⟩
  rw [hc]
  by_cases h1 : x < cl j
  · rw [show pu_met cl ch j x = false by simp [pu_met, h1]] at h
    exact br_t h1 h
  · by_cases h2 : ch j < x
    · rw [show pu_met cl ch j x = false by simp [pu_met, h2]] at h
      exact br_f h1 ⟨hi, br_t h2 h⟩
    · rw [show pu_met cl ch j x = true by unfold pu_met; rw [decide_eq_false h1, decide_eq_false h2]; rfl] at h
      exact br_f h1 ⟨hi, br_f h2 h⟩
theorem jy_met {post : Int32 → Prop} {j : Nat} {x : Int32} (hj : j < 4) (h : post (pb_I (pu_met cl ch j x))) : wpY_isMet post (nI n, fp, nI m, yv, yp, yt, d, cc, cl, ch) (nI j) x := by
  have hi : vp_in (nI j) 4 := vp_in_nI hj (by decide)
  have hc : (nI j).toNatClampNeg = j := nI_clamp (by omega)
  refine ⟨hi, ?_⟩
  rw [hc]
  by_cases h1 : x < cl j
  · rw [show pu_met cl ch j x = false by simp [pu_met, h1]] at h
    exact br_t h1 h
  · by_cases h2 : ch j < x
    · rw [show pu_met cl ch j x = false by simp [pu_met, h2]] at h
      exact br_f h1 ⟨hi, br_t h2 h⟩
    · rw [show pu_met cl ch j x = true by unfold pu_met; rw [decide_eq_false h1, decide_eq_false h2]; rfl] at h
      exact br_f h1 ⟨hi, br_f h2 h⟩
theorem jx_ck13 {post : Int32 → Prop} {r : Nat} (H : jx_H n m xv cc V) (hr : r < 96) : ∀ e j, j + e = m → post (pb_I (pu_all (fun j => pu_met cl ch j (V r (cc j).toNatClampNeg)) e j)) → wX_isChosen_13 post (nI r) (nI n) fp (nI m) xv xp xt d cc cl ch (e + 1) (nI j) := by
  intro e
  induction e with
  | zero =>
    intro j hj h
    have := H.2.1
    exact br_t (nI_le (by omega) (by omega)) h
  | succ e ih =>
    intro j hj h
    have hm := H.2.1
    have hz : ¬ nI m ≤ nI j := nI_ge (by omega) (by omega)
    obtain ⟨c, hc, ec⟩ := H.2.2.1 j
    have ej : (nI j).toNatClampNeg = j := nI_clamp (by omega)
    have e2 : (cc j).toNatClampNeg = c := by rw [ec]; exact nI_clamp (by omega)
    refine br_f hz ⟨vp_in_nI (by omega) (by decide), ?_⟩
    rw [ej, ec]
    refine ⟨jx_i hr hc, ?_⟩
    rw [jx_v H hr hc]
    refine jx_within (by omega) ?_
    unfold pu_all at h
    rw [e2] at h
    cases hq : pu_met cl ch j (V r c) with
    | false => rw [hq] at h; exact br_t rfl h
    | true => rw [hq, Bool.true_and] at h; exact br_f (by decide) (nm_r (nI_1 j) (ih (j + 1) (by omega) h))
theorem jx_ck {post : Int32 → Prop} {r : Nat} (H : jx_H n m xv cc V) (hr : r < 96) (h : post (pb_I ((pu_ck m d cc cl ch V) r))) : wpX_isChosen post (nI n, fp, nI m, xv, xp, xt, d, cc, cl, ch) (nI r) := by
  refine ⟨vp_in_nI hr (by decide), ?_⟩
  rw [nI_clamp (by omega)]
  unfold pu_ck at h
  by_cases hd : d r = 0
  · rw [decide_eq_true hd, Bool.true_and] at h
    exact br_t hd ⟨m + 1, jx_ck13 H hr m 0 (by omega) h⟩
  · rw [decide_eq_false hd, Bool.false_and] at h
    exact br_f hd h
theorem jy_ck25 {post : Int32 → Prop} {r : Nat} (H : jy_H n m yv cc V) (hr : r < 96) : ∀ e j b, j + e = m → post (pb_I (b && pu_all (fun j => pu_met cl ch j (V r (cc j).toNatClampNeg)) e j)) → wY_isChosen_25 post (nI r) (nI n) fp (nI m) yv yp yt d cc cl ch (e + 1) (pb_I b) (nI j) := by
  intro e
  induction e with
  | zero =>
    intro j b hj h
    have := H.2.1
    refine br_t (nI_le (by omega) (by omega)) ⟨pb_n b, ?_⟩
    rwa [pu_all, Bool.and_true] at h
  | succ e ih =>
    intro j b hj h
    have hm := H.2.1
    have hz : ¬ nI m ≤ nI j := nI_ge (by omega) (by omega)
    obtain ⟨c, hc, ec⟩ := H.2.2.1 j
    have ej : (nI j).toNatClampNeg = j := nI_clamp (by omega)
    have e2 : (cc j).toNatClampNeg = c := by rw [ec]; exact nI_clamp (by omega)
    refine br_f hz ?_
    cases b with
    | false => rw [Bool.false_and] at h; exact br_t rfl ⟨pb_n false, h⟩
    | true =>
      refine br_f (by decide) ⟨vp_in_nI (by omega) (by decide), ?_⟩
      rw [ej, ec]
      refine ⟨jy_i hr hc, ?_⟩
      rw [jy_v H hr hc]
      refine jy_met (by omega) (nm_r (nI_1 j) (ih (j + 1) _ (by omega) ?_))
      unfold pu_all at h
      rwa [e2, Bool.true_and] at h
theorem jy_ck {post : Int32 → Prop} {r : Nat} (H : jy_H n m yv cc V) (hr : r < n) (h : post (pb_I ((pu_ck m d cc cl ch V) r))) : wpY_isChosen post (nI n, fp, nI m, yv, yp, yt, d, cc, cl, ch) (nI r) := by
  have hn := H.1
  refine br_f (nI_ge hr (by omega)) ⟨vp_in_nI (by omega) (by decide), ?_⟩
  rw [nI_clamp (by omega)]
  unfold pu_ck at h
  by_cases hd : d r = 0
  · rw [decide_eq_true hd] at h
    exact br_t hd ⟨m + 1, jy_ck25 H (by omega) m 0 true (by omega) h⟩
  · rw [decide_eq_false hd] at h
    exact br_f hd ⟨m + 1, jy_ck25 H (by omega) m 0 false (by omega) h⟩
