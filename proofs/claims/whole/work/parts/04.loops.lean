/-! loops over the rows: count, chosen, sum, least, delete in lockstep; counts against pu_cn -/
variable {n m : Nat} {fp : Int32} {xv xp xt yv yp yt d cc cl ch : Nat → Int32} {V P : Nat → Nat → Int32}
theorem jb_count (HX : jx_H n m xv cc V) (HY : jy_H n m yv cc V) : ∀ e i, i + e = n → ∀ a : Int32, ∃ r : Int32, (∀ post : Int32 → Prop, post r → wX_count_4 post (nI n) fp (nI m) xv xp xt d cc cl ch (e + 1) a (nI i)) ∧ (∀ post : Int32 → Prop, post r → wY_count_4 post (nI n) fp (nI m) yv yp yt d cc cl ch (e + 1) a (nI i)) := by
  have hn := HX.1
  intro e
  induction e with
  | zero =>
    intro i hi a
    have h : nI n ≤ nI i := nI_le (by omega) (by omega)
    exact ⟨a, fun _ hp => br_t h hp, fun _ hp => br_t h hp⟩
  | succ e ih =>
    intro i hi a
    have h : ¬ nI n ≤ nI i := nI_ge (by omega) (by omega)
    cases hC : (pu_ck m d cc cl ch V) i with
    | false =>
      obtain ⟨r, hX, hY⟩ := ih (i + 1) (by omega) a
      refine ⟨r, fun post hp => br_f h (jx_ck HX (by omega) ?_), fun post hp => br_f h (jy_ck HY (by omega) ?_)⟩
      · rw [hC]; exact br_t rfl (nm_r (nI_1 i) (hX post hp))
      · rw [hC]; exact br_t rfl (nm_r (nI_1 i) (hY post hp))
    | true =>
      obtain ⟨r, hX, hY⟩ := ih (i + 1) (by omega) (a + 1)
      refine ⟨r, fun post hp => br_f h (jx_ck HX (by omega) ?_), fun post hp => br_f h (jy_ck HY (by omega) ?_)⟩
      · rw [hC]; exact br_f (by decide) (nm_e (nm_r (nI_1 i) (hX post hp)))
      · rw [hC]; exact br_f (by decide) (nm_e (nm_r (nI_1 i) (hY post hp)))
theorem jb_chosen (HX : jx_H n m xv cc V) (HY : jy_H n m yv cc V) (k : Int32) : ∀ e i, i + e = n → ∀ a : Int32, ∃ r : Int32, (∀ post : Int32 → Prop, post r → wX_chosen_4 post k (nI n) fp (nI m) xv xp xt d cc cl ch (e + 1) a (nI i)) ∧ (∀ post : Int32 → Prop, post r → wY_chosen_4 post (nI n) fp (nI m) yv yp yt d cc cl ch (e + 1) (k - a) (nI i)) := by
  have hn := HX.1
  intro e
  induction e with
  | zero =>
    intro i hi a
    have h : nI n ≤ nI i := nI_le (by omega) (by omega)
    exact ⟨_, fun _ hp => br_t h hp, fun _ hp => br_t h hp⟩
  | succ e ih =>
    intro i hi a
    have h : ¬ nI n ≤ nI i := nI_ge (by omega) (by omega)
    cases hC : (pu_ck m d cc cl ch V) i with
    | false =>
      obtain ⟨r, hX, hY⟩ := ih (i + 1) (by omega) a
      refine ⟨r, fun post hp => br_f h (jx_ck HX (by omega) ?_), fun post hp => br_f h (jy_ck HY (by omega) ?_)⟩
      · rw [hC]; exact br_t rfl (nm_r (nI_1 i) (hX post hp))
      · rw [hC]; exact br_t rfl (nm_r (nI_1 i) (hY post hp))
    | true =>
      by_cases hk : a = k
      · have hk2 : k - a = 0 := by grind
        refine ⟨nI i, fun post hp => br_f h (jx_ck HX (by omega) ?_), fun post hp => br_f h (jy_ck HY (by omega) ?_)⟩
        · rw [hC]; exact br_f (by decide) (br_t hk hp)
        · rw [hC]; exact br_f (by decide) (br_t hk2 hp)
      · have hk2 : ¬ k - a = 0 := by grind
        have e1 : k - a + (-1) = k - (a + 1) := by grind
        obtain ⟨r, hX, hY⟩ := ih (i + 1) (by omega) (a + 1)
        refine ⟨r, fun post hp => br_f h (jx_ck HX (by omega) ?_), fun post hp => br_f h (jy_ck HY (by omega) ?_)⟩
        · rw [hC]; exact br_f (by decide) (br_f hk (nm_e (nm_r (nI_1 i) (hX post hp))))
        · rw [hC]; exact br_f (by decide) (br_f hk2 (nm_r e1 (nm_r (nI_1 i) (hY post hp))))
theorem jb_sum (HX : jx_H n m xv cc V) (HY : jy_H n m yv cc V) {c : Nat} (hc : c < 3) : ∀ e i, i + e = n → ∀ a : Int32, ∃ r : Int32, (∀ post : Int32 → Prop, post r → wX_sum_15 post (nI c) (nI n) fp (nI m) xv xp xt d cc cl ch (e + 1) a (nI i)) ∧ (∀ post : Int32 → Prop, post r → wY_sum_15 post (nI c) (nI n) fp (nI m) yv yp yt d cc cl ch (e + 1) a (nI i)) := by
  have hn := HX.1
  intro e
  induction e with
  | zero =>
    intro i hi a
    have h : nI n ≤ nI i := nI_le (by omega) (by omega)
    exact ⟨a, fun _ hp => br_t h hp, fun _ hp => br_t h hp⟩
  | succ e ih =>
    intro i hi a
    have h : ¬ nI n ≤ nI i := nI_ge (by omega) (by omega)
    have hr : i < 96 := by omega
    cases hC : (pu_ck m d cc cl ch V) i with
    | false =>
      obtain ⟨r, hX, hY⟩ := ih (i + 1) (by omega) a
      refine ⟨r, fun post hp => br_f h (jx_ck HX (by omega) ?_), fun post hp => br_f h (jy_ck HY (by omega) ?_)⟩
      · rw [hC]; exact br_t rfl (nm_r (nI_1 i) (hX post hp))
      · rw [hC]; exact br_t rfl (nm_r (nI_1 i) (hY post hp))
    | true =>
      obtain ⟨r, hX, hY⟩ := ih (i + 1) (by omega) (a + V i c)
      refine ⟨r, fun post hp => br_f h (jx_ck HX (by omega) ?_), fun post hp => br_f h (jy_ck HY (by omega) ?_)⟩
      · rw [hC]; exact br_f (by decide) ⟨jx_i hr hc, nm_r (by rw [jx_v HX hr hc]) (nm_r (nI_1 i) (hX post hp))⟩
      · rw [hC]; exact br_f (by decide) ⟨jy_i hr hc, nm_r (by rw [jy_v HY hr hc]) (nm_r (nI_1 i) (hY post hp))⟩
theorem jb_least (HX : jx_H n m xv cc V) (HY : jy_H n m yv cc V) {c : Nat} (hc : c < 3) : ∀ e i, i + e = n → ∀ b a : Int32, ∃ r : Int32, (∀ post : Int32 → Prop, post r → wX_least_19 post (nI c) (nI n) fp (nI m) xv xp xt d cc cl ch (e + 1) b a (nI i)) ∧ (∀ post : Int32 → Prop, post r → wY_least_19 post (nI c) (nI n) fp (nI m) yv yp yt d cc cl ch (e + 1) b a (nI i)) := by
  have hn := HX.1
  intro e
  induction e with
  | zero =>
    intro i hi b a
    have h : nI n ≤ nI i := nI_le (by omega) (by omega)
    exact ⟨a, fun _ hp => br_t h hp, fun _ hp => br_t h hp⟩
  | succ e ih =>
    intro i hi b a
    have h : ¬ nI n ≤ nI i := nI_ge (by omega) (by omega)
    have hr : i < 96 := by omega
    cases hC : (pu_ck m d cc cl ch V) i with
    | false =>
      obtain ⟨r, hX, hY⟩ := ih (i + 1) (by omega) b a
      refine ⟨r, fun post hp => br_f h (jx_ck HX (by omega) ?_), fun post hp => br_f h (jy_ck HY (by omega) ?_)⟩
      · rw [hC]; exact br_t rfl (nm_r (nI_1 i) (hX post hp))
      · rw [hC]; exact br_t rfl (nm_r (nI_1 i) (hY post hp))
    | true =>
      by_cases hb : b = 0
      · obtain ⟨r, hX, hY⟩ := ih (i + 1) (by omega) 1 (V i c)
        refine ⟨r, fun post hp => br_f h (jx_ck HX (by omega) ?_), fun post hp => br_f h (jy_ck HY (by omega) ?_)⟩
        · rw [hC]; exact br_f (by decide) ⟨jx_i hr hc, nm_r (jx_v HX hr hc) (br_t hb (nm_r (nI_1 i) (hX post hp)))⟩
        · rw [hC]; exact br_f (by decide) ⟨jy_i hr hc, nm_r (jy_v HY hr hc) (br_t hb (nm_r (nI_1 i) (hY post hp)))⟩
      · by_cases ha : a ≤ V i c
        · obtain ⟨r, hX, hY⟩ := ih (i + 1) (by omega) 1 a
          refine ⟨r, fun post hp => br_f h (jx_ck HX (by omega) ?_), fun post hp => br_f h (jy_ck HY (by omega) ?_)⟩
          · rw [hC]; exact br_f (by decide) ⟨jx_i hr hc, nm_r (jx_v HX hr hc) (br_f hb (br_t ha (nm_r (nI_1 i) (hX post hp))))⟩
          · rw [hC]; exact br_f (by decide) ⟨jy_i hr hc, nm_r (jy_v HY hr hc) (br_f hb (br_t ha (nm_r (nI_1 i) (hY post hp))))⟩
        · obtain ⟨r, hX, hY⟩ := ih (i + 1) (by omega) 1 (V i c)
          refine ⟨r, fun post hp => br_f h (jx_ck HX (by omega) ?_), fun post hp => br_f h (jy_ck HY (by omega) ?_)⟩
          · rw [hC]; exact br_f (by decide) ⟨jx_i hr hc, nm_r (jx_v HX hr hc) (br_f hb (br_f ha (nm_r (nI_1 i) (hX post hp))))⟩
          · rw [hC]; exact br_f (by decide) ⟨jy_i hr hc, nm_r (jy_v HY hr hc) (br_f hb (br_f ha (nm_r (nI_1 i) (hY post hp))))⟩
theorem jb_delete (hn : n ≤ 96) : ∀ e i, i + e = n → ∀ a : Int32, ∃ r : Int32, (∀ post : Int32 → SX → Prop, post r (nI n, fp, nI m, xv, xp, xt, d, cc, cl, ch) → wX_delete_22 post (nI n) fp (nI m) xv xp xt d cc cl ch (e + 1) a (nI i)) ∧ (∀ post : Int32 → SY → Prop, post r (nI n, fp, nI m, yv, yp, yt, d, cc, cl, ch) → wY_delete_22 post (nI n) fp (nI m) yv yp yt d cc cl ch (e + 1) a (nI i)) := by
  intro e
  induction e with
  | zero =>
    intro i hi a
    have h : nI n ≤ nI i := nI_le (by omega) (by omega)
    exact ⟨a, fun _ hp => br_t h hp, fun _ hp => br_t h hp⟩
  | succ e ih =>
    intro i hi a
    have h : ¬ nI n ≤ nI i := nI_ge (by omega) (by omega)
    have hv : vp_in (nI i) 96 := vp_in_nI (by omega) (by decide)
    by_cases hC : d (nI i).toNatClampNeg = 0
    · obtain ⟨r, hX, hY⟩ := ih (i + 1) (by omega) (a + 1)
      exact ⟨r, fun post hp => br_f h ⟨hv, br_t hC (nm_e (nm_r (nI_1 i) (hX post hp)))⟩, fun post hp => br_f h ⟨hv, br_t hC (nm_e (nm_r (nI_1 i) (hY post hp)))⟩⟩
    · obtain ⟨r, hX, hY⟩ := ih (i + 1) (by omega) a
      exact ⟨r, fun post hp => br_f h ⟨hv, br_f hC (nm_r (nI_1 i) (hX post hp))⟩, fun post hp => br_f h ⟨hv, br_f hC (nm_r (nI_1 i) (hY post hp))⟩⟩
theorem jx_above5 (HX : jx_H n m xv cc V) {c : Nat} (hc : c < 3) {w : Int32} {Q : Nat → Bool} (hQ : Q = fun q => (pu_ck m d cc cl ch V) q && decide (w < V q c)) {post : Int32 → Prop} (hp : post (nI (pu_cn Q n))) : ∀ e i, i + e = n → wX_chosenAbove_5 post (nI c) w (nI n) fp (nI m) xv xp xt d cc cl ch (e + 1) (nI (pu_cn Q i)) (nI i) := by
  have hn := HX.1
  intro e
  induction e with
  | zero =>
    intro i hi
    have hi : i = n := by omega
    subst hi
    exact br_t (Int32.le_refl _) hp
  | succ e ih =>
    intro i hi
    have h : ¬ nI n ≤ nI i := nI_ge (by omega) (by omega)
    have hr : i < 96 := by omega
    have ih := ih (i + 1) (by omega)
    refine br_f h (jx_ck HX (by omega) ?_)
    cases hC : (pu_ck m d cc cl ch V) i with
    | false =>
      rw [pu_cn_f (by simp [hQ, hC])] at ih
      exact br_t rfl (nm_r (nI_1 i) ih)
    | true =>
      refine br_f (by decide) ⟨jx_i hr hc, ?_⟩
      rw [jx_v HX hr hc]
      by_cases hw : V i c ≤ w
      · rw [pu_cn_f (by simp [hQ, hC, Int32.not_lt.mpr hw])] at ih
        exact br_t hw (nm_r (nI_1 i) ih)
      · rw [pu_cn_t (by simp [hQ, hC, Int32.not_le.mp hw])] at ih
        exact br_f hw (nm_r (nI_1 _) (nm_r (nI_1 i) ih))
theorem jx_above (HX : jx_H n m xv cc V) {c : Nat} (hc : c < 3) {w : Int32} {post : Int32 → Prop} (hp : post (nI (pu_cn (fun q => (pu_ck m d cc cl ch V) q && decide (w < V q c)) n))) : wpX_chosenAbove post (nI n, fp, nI m, xv, xp, xt, d, cc, cl, ch) (nI c) w :=
  ⟨n + 1, jx_above5 HX hc rfl hp n 0 (by omega)⟩
theorem jx_with6 (HX : jx_H n m xv cc V) {c : Nat} (hc : c < 3) {w : Int32} {en : Nat} (hen : en ≤ 96) {Q : Nat → Bool} (hQ : Q = fun q => (pu_ck m d cc cl ch V) q && decide (V q c = w)) {post : Int32 → Prop} (hp : post (nI (pu_cn Q en))) : ∀ e i, i + e = en → wX_chosenWith_6 post (nI c) w (nI en) (nI n) fp (nI m) xv xp xt d cc cl ch (e + 1) (nI (pu_cn Q i)) (nI i) := by
  intro e
  induction e with
  | zero =>
    intro i hi
    have hi : i = en := by omega
    subst hi
    exact br_t (Int32.le_refl _) hp
  | succ e ih =>
    intro i hi
    have h : ¬ nI en ≤ nI i := nI_ge (by omega) (by omega)
    have hr : i < 96 := by omega
    have ih := ih (i + 1) (by omega)
    refine br_f h (jx_ck HX (by omega) ?_)
    cases hC : (pu_ck m d cc cl ch V) i with
    | false =>
      rw [pu_cn_f (by simp [hQ, hC])] at ih
      exact br_t rfl (nm_r (nI_1 i) ih)
    | true =>
      refine br_f (by decide) ⟨jx_i hr hc, ?_⟩
      rw [jx_v HX hr hc]
      by_cases hw : V i c = w
      · rw [pu_cn_t (by simp [hQ, hC, hw])] at ih
        exact br_t hw (nm_r (nI_1 _) (nm_r (nI_1 i) ih))
      · rw [pu_cn_f (by simp [hQ, hC, hw])] at ih
        exact br_f hw (nm_r (nI_1 i) ih)
theorem jx_with (HX : jx_H n m xv cc V) {c : Nat} (hc : c < 3) {w : Int32} {en : Nat} (hen : en ≤ 96) {post : Int32 → Prop} (hp : post (nI (pu_cn (fun q => (pu_ck m d cc cl ch V) q && decide (V q c = w)) en))) : wpX_chosenWith post (nI n, fp, nI m, xv, xp, xt, d, cc, cl, ch) (nI c) w (nI en) :=
  ⟨en + 1, jx_with6 HX hc hen rfl hp en 0 (by omega)⟩
theorem jy_like5 (HY : jy_H n m yv cc V) {c : Nat} (hc : c < 3) {s : Nat} (hs : s < 96) {Q : Nat → Bool} (hQ : Q = fun q => (pu_ck m d cc cl ch V) q && decide (V q c = V s c)) {post : Int32 → Prop} (hp : post (nI (pu_cn Q n))) : ∀ e i, i + e = n → wY_like_5 post (nI c) (nI s) (nI n) fp (nI m) yv yp yt d cc cl ch (e + 1) (nI (pu_cn Q i)) (nI i) := by
  have hn := HY.1
  intro e
  induction e with
  | zero =>
    intro i hi
    have hi : i = n := by omega
    subst hi
    exact br_t (Int32.le_refl _) hp
  | succ e ih =>
    intro i hi
    have h : ¬ nI n ≤ nI i := nI_ge (by omega) (by omega)
    have hr : i < 96 := by omega
    have ih := ih (i + 1) (by omega)
    refine br_f h (jy_ck HY (by omega) ?_)
    cases hC : (pu_ck m d cc cl ch V) i with
    | false =>
      rw [pu_cn_f (by simp [hQ, hC])] at ih
      exact br_t rfl (nm_r (nI_1 i) ih)
    | true =>
      refine br_f (by decide) ⟨jy_i hr hc, jy_i hs hc, ?_⟩
      rw [jy_v HY hr hc, jy_v HY hs hc]
      by_cases hw : V i c = V s c
      · rw [pu_cn_t (by simp [hQ, hC, hw])] at ih
        exact br_t hw (nm_r (nI_1 _) (nm_r (nI_1 i) ih))
      · rw [pu_cn_f (by simp [hQ, hC, hw])] at ih
        exact br_f hw (nm_r (nI_1 i) ih)
theorem jy_like (HY : jy_H n m yv cc V) {c : Nat} (hc : c < 3) {s : Nat} (hs : s < 96) {post : Int32 → Prop} (hp : post (nI (pu_cn (fun q => (pu_ck m d cc cl ch V) q && decide (V q c = V s c)) n))) : wpY_like post (nI n, fp, nI m, yv, yp, yt, d, cc, cl, ch) (nI c) (nI s) :=
  ⟨n + 1, jy_like5 HY hc hs rfl hp n 0 (by omega)⟩
theorem jy_rank17 (HY : jy_H n m yv cc V) {c : Nat} (hc : c < 3) {s : Nat} (hs : s < 96) {Q : Nat → Bool} (hQ : Q = fun q => (pu_ck m d cc cl ch V) q && (decide (V s c < V q c) || (decide (V q c = V s c) && decide (q < s)))) {post : Int32 → Prop} (hp : post (nI (pu_cn Q n))) : ∀ e i, i + e = n → wY_rank_17 post (nI c) (nI s) (V s c) (nI n) fp (nI m) yv yp yt d cc cl ch (e + 1) (nI (pu_cn Q i)) (nI i) := by
  have hn := HY.1
  intro e
  induction e with
  | zero =>
    intro i hi
    have hi : i = n := by omega
    subst hi
    exact br_t (Int32.le_refl _) hp
  | succ e ih =>
    intro i hi
    have h : ¬ nI n ≤ nI i := nI_ge (by omega) (by omega)
    have hr : i < 96 := by omega
    have ih := ih (i + 1) (by omega)
    refine br_f h ⟨jy_i hr hc, nm_r (jy_v HY hr hc) (jy_ck HY (by omega) ?_)⟩
    cases hC : (pu_ck m d cc cl ch V) i with
    | false =>
      rw [pu_cn_f (by simp [hQ, hC])] at ih
      exact br_t rfl (nm_r (nI_1 i) ih)
    | true =>
      refine br_f (by decide) ?_
      by_cases hw : V s c < V i c
      · rw [pu_cn_t (by simp [hQ, hC, hw])] at ih
        exact br_t hw (nm_r (nI_1 _) (nm_r (nI_1 i) ih))
      · refine br_f hw ?_
        by_cases hv : V i c = V s c
        · refine br_t hv ?_
          by_cases hq : i < s
          · rw [pu_cn_t (by simp [hQ, hC, hv, hq])] at ih
            exact br_f (nI_ge hq (by omega)) (nm_r (nI_1 _) (nm_r (nI_1 i) ih))
          · rw [pu_cn_f (by rw [hQ]; simp [hC, hv, hq])] at ih
            exact br_t (nI_le (by omega) (by omega)) (nm_r (nI_1 i) ih)
        · rw [pu_cn_f (by rw [hQ]; simp only [decide_eq_false hw, decide_eq_false hv]; simp)] at ih
          exact br_f hv (nm_r (nI_1 i) ih)
theorem jy_rank (HY : jy_H n m yv cc V) {c : Nat} (hc : c < 3) {s : Nat} (hs : s < 96) {post : Int32 → Prop} (hp : post (nI (pu_cn (fun q => (pu_ck m d cc cl ch V) q && (decide (V s c < V q c) || (decide (V q c = V s c) && decide (q < s)))) n))) : wpY_rank post (nI n, fp, nI m, yv, yp, yt, d, cc, cl, ch) (nI c) (nI s) :=
  ⟨jy_i hs hc, nm_r (jy_v HY hs hc) ⟨n + 1, jy_rank17 HY hc hs rfl hp n 0 (by omega)⟩⟩
