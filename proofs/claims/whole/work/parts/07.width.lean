/-! the width of a span; stretches; the different values of a block -/
variable {n m : Nat} {fp : Int32} {xv xp xt yv yp yt d cc cl ch : Nat → Int32} {V P : Nat → Nat → Int32}
theorem wd_lt {s w : Nat} (hs : s < 2 ^ 63) (hw : w < 63) : lN s < (1 : Int64) <<< ((nI w).toInt64 &&& 63) ↔ s < 2 ^ w := by
  have e : (1 : Int64) <<< ((nI w).toInt64 &&& 63) = lN (2 ^ w) := by
    have := wb_shl 1 (k := w) (by omega)
    rw [Nat.one_mul] at this
    exact this
  have : 2 ^ w < 2 ^ 63 := Nat.pow_lt_pow_right (by decide) hw
  rw [e, pk_lLT hs this]
theorem wd_both {s : Nat} (hs : s < 2147483648) : ∀ e w, w + e = 31 → ∃ t, t ≤ 31 ∧ (∀ post : Int32 → Prop, post (nI t) → wX_widthOf_2 post (lN s) (nI n) fp (nI m) xv xp xt d cc cl ch (e + 1) (nI w)) ∧ (∀ post : Int32 → Prop, post (nI t) → wY_width_2 post (lN s) (nI n) fp (nI m) yv yp yt d cc cl ch (e + 1) (nI w)) := by
  intro e
  induction e with
  | zero =>
    intro w hw
    have h1 : ¬ 31 < nI w := nI_nlt (a := 31) (by omega) (by decide)
    have h2 : lN s < (1 : Int64) <<< ((nI w).toInt64 &&& 63) := (wd_lt (by omega) (by omega)).mpr (by rw [show w = 31 by omega]; omega)
    exact ⟨w, by omega, fun _ hp => br_f h1 (br_t h2 hp), fun _ hp => br_t h2 hp⟩
  | succ e ih =>
    intro w hw
    have h1 : ¬ 31 < nI w := nI_nlt (a := 31) (by omega) (by decide)
    by_cases h : s < 2 ^ w
    · have h2 : lN s < (1 : Int64) <<< ((nI w).toInt64 &&& 63) := (wd_lt (by omega) (by omega)).mpr h
      exact ⟨w, by omega, fun _ hp => br_f h1 (br_t h2 hp), fun _ hp => br_t h2 hp⟩
    · have h2 : ¬ lN s < (1 : Int64) <<< ((nI w).toInt64 &&& 63) := fun z => h ((wd_lt (by omega) (by omega)).mp z)
      obtain ⟨t, ht, hX, hY⟩ := ih (w + 1) (by omega)
      exact ⟨t, ht, fun _ hp => br_f h1 (br_f h2 (nm_r (nI_1 w) (hX _ hp))), fun _ hp => br_f h2 (nm_r (nI_1 w) (hY _ hp))⟩
theorem wd_over {s : Nat} (h1 : 2147483648 ≤ s) (h2 : s < 2 ^ 63) {post : Int32 → Prop} (hp : post 32) : ∀ e w, w + e = 32 → wX_widthOf_2 post (lN s) (nI n) fp (nI m) xv xp xt d cc cl ch (e + 1) (nI w) := by
  intro e
  induction e with
  | zero =>
    intro w hw
    rw [show w = 32 by omega]
    exact br_t (nI_lt (a := 31) (b := 32) (by decide) (by decide)) hp
  | succ e ih =>
    intro w hw
    have g : 2 ^ w ≤ 2 ^ 31 := Nat.pow_le_pow_right (by decide) (by omega)
    have h3 : ¬ lN s < (1 : Int64) <<< ((nI w).toInt64 &&& 63) := fun z => by
      have := (wd_lt h2 (by omega)).mp z
      omega
    exact br_f (nI_nlt (a := 31) (by omega) (by decide)) (br_f h3 (nm_r (nI_1 w) (ih (w + 1) (by omega))))
theorem jx_str4 (HX : jx_H n m xp cc P) {b c : Nat} (hb : b < 6) (hc : c < 3) {Q : Nat → Bool} (hQ : Q = fun i => !decide (P (16 * b + (i + 1)) c = P (16 * b + i) c)) {post : Int32 → Prop} (hp : post (nI (pu_cn Q 15 + 1))) : ∀ e t, t + e = 15 → wX_stretches_4 post (nI (c * 96 + b * 16)) (nI n) fp (nI m) xv xp xt d cc cl ch (e + 1) (nI (pu_cn Q t + 1)) (nI (t + 1)) := by
  intro e
  induction e with
  | zero =>
    intro t ht
    have ht : t = 15 := by omega
    subst ht
    exact br_t (Int32.le_refl _) hp
  | succ e ih =>
    intro t ht
    have ih := ih (t + 1) (by omega)
    have e1 : nI (c * 96 + b * 16) + nI (t + 1) - 1 = nI (c * 96 + b * 16) + nI t := by rw [nI_add, nI_add]; exact nI_pred _
    refine br_f (nI_ge (b := 16) (by omega) (by decide)) ⟨bx_i hb hc (by omega), ?_⟩
    rw [e1]
    refine ⟨bx_i hb hc (by omega), ?_⟩
    rw [bx_v HX hb hc (by omega), bx_v HX hb hc (by omega)]
    by_cases h : P (16 * b + (t + 1)) c = P (16 * b + t) c
    · rw [pu_cn_f (by simp [hQ, h])] at ih
      exact br_t h (nm_r (nI_1 _) ih)
    · rw [pu_cn_t (by simp [hQ, h])] at ih
      exact br_f h (nm_r (nI_1 _) (nm_r (nI_1 _) ih))
theorem jx_str (HX : jx_H n m xp cc P) {b c : Nat} (hb : b < 6) (hc : c < 3) {post : Int32 → Prop} (hp : post (nI (pu_cn (fun i => !decide (P (16 * b + (i + 1)) c = P (16 * b + i) c)) 15 + 1))) : wpX_stretches post (nI n, fp, nI m, xv, xp, xt, d, cc, cl, ch) (nI (c * 96 + b * 16)) :=
  ⟨16, jx_str4 HX hb hc rfl hp 15 0 (by omega)⟩
theorem jy_run5 (HY : jy_H n m yp cc P) {b c : Nat} (hb : b < 6) (hc : c < 3) {Q : Nat → Bool} (hQ : Q = fun i => !decide (P (16 * b + (i + 1)) c = P (16 * b + i) c)) {post : Int32 → Prop} (hp : post (37 * nI (pu_cn Q 15 + 1))) : ∀ e t, t + e = 15 → wY_runDigits_5 post (nI b) (nI c) (nI n) fp (nI m) yv yp yt d cc cl ch (e + 1) (nI (pu_cn Q t + 1)) (nI (t + 1)) := by
  intro e
  induction e with
  | zero =>
    intro t ht
    have ht : t = 15 := by omega
    subst ht
    exact br_t (Int32.le_refl _) hp
  | succ e ih =>
    intro t ht
    have ih := ih (t + 1) (by omega)
    refine br_f (nI_ge (b := 16) (by omega) (by decide)) (by_v HY hb hc (by omega) ?_)
    rw [nI_pred]
    refine by_v HY hb hc (by omega) ?_
    by_cases h : P (16 * b + (t + 1)) c = P (16 * b + t) c
    · rw [pu_cn_f (by simp [hQ, h])] at ih
      exact br_t h (nm_r (nI_1 _) ih)
    · rw [pu_cn_t (by simp [hQ, h])] at ih
      exact br_f h (nm_r (nI_1 _) (nm_r (nI_1 _) ih))
theorem jy_run (HY : jy_H n m yp cc P) {b c : Nat} (hb : b < 6) (hc : c < 3) {post : Int32 → Prop} (hp : post (37 * nI (pu_cn (fun i => !decide (P (16 * b + (i + 1)) c = P (16 * b + i) c)) 15 + 1))) : wpY_runDigits post (nI n, fp, nI m, yv, yp, yt, d, cc, cl, ch) (nI b) (nI c) :=
  ⟨16, jy_run5 HY hb hc rfl hp 15 0 (by omega)⟩
/-- the value at i of a block has not come before -/
def pu_fst (P : Nat → Nat → Int32) (b c i : Nat) : Bool := pu_all (fun k => !decide (P (16 * b + k) c = P (16 * b + i) c)) i 0
theorem jx_fst2 (HX : jx_H n m xp cc P) {b c i : Nat} (hb : b < 6) (hc : c < 3) (hi : i < 16) {post : Int32 → Prop} : ∀ e k, k + e = i → post (pb_I (pu_all (fun k => !decide (P (16 * b + k) c = P (16 * b + i) c)) e k)) → wX_isFirstInBlock_2 post (nI (c * 96 + b * 16)) (nI i) (nI n) fp (nI m) xv xp xt d cc cl ch (e + 1) (nI k) := by
  intro e
  induction e with
  | zero =>
    intro k hk h
    exact br_t (nI_le (by omega) (by omega)) h
  | succ e ih =>
    intro k hk h
    refine br_f (nI_ge (by omega) (by omega)) ⟨bx_i hb hc (by omega), bx_i hb hc (by omega), ?_⟩
    rw [bx_v HX hb hc (by omega), bx_v HX hb hc (by omega)]
    rw [pu_all] at h
    by_cases q : P (16 * b + k) c = P (16 * b + i) c
    · rw [decide_eq_true q] at h
      exact br_t q h
    · rw [decide_eq_false q] at h
      exact br_f q (nm_r (nI_1 k) (ih (k + 1) (by omega) h))
theorem jx_fst (HX : jx_H n m xp cc P) {b c i : Nat} (hb : b < 6) (hc : c < 3) (hi : i < 16) {post : Int32 → Prop} (h : post (pb_I (pu_fst P b c i))) : wpX_isFirstInBlock post (nI n, fp, nI m, xv, xp, xt, d, cc, cl, ch) (nI (c * 96 + b * 16)) (nI i) :=
  ⟨i + 1, jx_fst2 HX hb hc hi i 0 (by omega) h⟩
theorem jx_list4 (HX : jx_H n m xp cc P) {b c : Nat} (hb : b < 6) (hc : c < 3) {post : Int32 → Prop} (hp : wX_listDigits_4 post (nI (c * 96 + b * 16)) (nI n) fp (nI m) xv xp xt d cc cl ch 1 (nI (pu_cn (pu_fst P b c) 16)) 16) : ∀ e i, i + e = 16 → wX_listDigits_4 post (nI (c * 96 + b * 16)) (nI n) fp (nI m) xv xp xt d cc cl ch (e + 1) (nI (pu_cn (pu_fst P b c) i)) (nI i) := by
  intro e
  induction e with
  | zero =>
    intro i hi
    have hi : i = 16 := by omega
    subst hi
    exact hp
  | succ e ih =>
    intro i hi
    have ih := ih (i + 1) (by omega)
    refine br_f (nI_ge (b := 16) (by omega) (by decide)) (jx_fst HX hb hc (by omega) ?_)
    cases h : pu_fst P b c i with
    | false =>
      rw [pu_cn_f h] at ih
      exact br_t rfl (nm_r (nI_1 i) ih)
    | true =>
      rw [pu_cn_t h] at ih
      exact br_f (by decide) (nm_r (nI_1 _) (nm_r (nI_1 i) ih))
theorem jy_dist18 (HY : jy_H n m yp cc P) {b c i : Nat} (hb : b < 6) (hc : c < 3) (hi : i < 16) {a : Int32} {post : Int32 → Prop} {J : Int32 → Int32 → Prop} : ∀ e k f, k + e = i → J (a + pb_I (f && pu_all (fun k => !decide (P (16 * b + k) c = P (16 * b + i) c)) e k)) (nI (i + 1)) → wY_distinct_18 post J (nI b) (nI c) a (nI i) (nI n) fp (nI m) yv yp yt d cc cl ch (e + 1) (pb_I f) (nI k) := by
  intro e
  induction e with
  | zero =>
    intro k f hk h
    rw [pu_all, Bool.and_true] at h
    refine br_t (nI_le (by omega) (by omega)) ?_
    cases f with
    | false => rw [show a + pb_I false = a from Int32.add_zero a] at h; exact br_t rfl (nm_r (nI_1 i) h)
    | true => exact br_f (by decide) (nm_e (nm_r (nI_1 i) h))
  | succ e ih =>
    intro k f hk h
    refine br_f (nI_ge (by omega) (by omega)) ?_
    cases f with
    | false =>
      rw [Bool.false_and] at h
      refine br_t rfl (nm_r (nI_1 k) (ih (k + 1) false (by omega) ?_))
      rw [Bool.false_and]
      exact h
    | true =>
      rw [pu_all, Bool.true_and] at h
      refine br_f (by decide) (by_v HY hb hc (by omega) (by_v HY hb hc (by omega) ?_))
      by_cases q : P (16 * b + k) c = P (16 * b + i) c
      · rw [decide_eq_true q] at h
        exact br_t q (nm_r (nI_1 k) (ih (k + 1) false (by omega) h))
      · rw [decide_eq_false q] at h
        exact br_f q (nm_r (nI_1 k) (ih (k + 1) true (by omega) h))
theorem jy_dist5 (HY : jy_H n m yp cc P) {b c : Nat} (hb : b < 6) (hc : c < 3) {post : Int32 → Prop} (hp : post (nI (pu_cn (pu_fst P b c) 16))) : ∀ e i, i + e = 16 → wY_distinct_5 post (nI b) (nI c) (nI n) fp (nI m) yv yp yt d cc cl ch (e + 1) (nI (pu_cn (pu_fst P b c) i)) (nI i) := by
  intro e
  induction e with
  | zero =>
    intro i hi
    have hi : i = 16 := by omega
    subst hi
    exact br_t (Int32.le_refl _) hp
  | succ e ih =>
    intro i hi
    have ih := ih (i + 1) (by omega)
    refine br_f (nI_ge (b := 16) (by omega) (by decide)) ⟨i + 1, jy_dist18 HY hb hc (by omega) i 0 true (by omega) ?_⟩
    have e1 : nI (pu_cn (pu_fst P b c) i) + pb_I (true && pu_all (fun k => !decide (P (16 * b + k) c = P (16 * b + i) c)) i 0) = nI (pu_cn (pu_fst P b c) (i + 1)) := by
      show _ + pb_I (pu_fst P b c i) = _
      cases h : pu_fst P b c i with
      | false => rw [pu_cn_f h]; exact Int32.add_zero _
      | true => rw [pu_cn_t h]; exact nI_1 _
    rw [e1]
    exact ih
theorem jy_dist (HY : jy_H n m yp cc P) {b c : Nat} (hb : b < 6) (hc : c < 3) {post : Int32 → Prop} (hp : post (nI (pu_cn (pu_fst P b c) 16))) : wpY_distinct post (nI n, fp, nI m, yv, yp, yt, d, cc, cl, ch) (nI b) (nI c) :=
  ⟨17, jy_dist5 HY hb hc hp 16 0 (by omega)⟩
theorem pu_fst0 (P : Nat → Nat → Int32) (b c : Nat) : pu_fst P b c 0 = true := rfl
theorem pu_dist_pos (P : Nat → Nat → Int32) (b c : Nat) : 1 ≤ pu_cn (pu_fst P b c) 16 := pu_cn_lt (i := 0) (n := 16) (by decide) (pu_fst0 P b c)
theorem pu_fst_f {P : Nat → Nat → Int32} {b c i : Nat} : pu_fst P b c i = false ↔ ∃ k, k < i ∧ P (16 * b + k) c = P (16 * b + i) c := by
  constructor
  · intro h
    apply Classical.byContradiction
    intro z
    have : pu_fst P b c i = true := (pu_all_iff _ i 0).mpr (fun j _ hj => by
      have : ¬ P (16 * b + j) c = P (16 * b + i) c := fun q => z ⟨j, by omega, q⟩
      rw [decide_eq_false this]
      rfl)
    rw [this] at h
    cases h
  · intro ⟨k, hk, e⟩
    cases h : pu_fst P b c i with
    | false => rfl
    | true =>
      have := (pu_all_iff _ i 0).mp h k (by omega) (by omega)
      rw [decide_eq_true e] at this
      cases this
/-- one stretch if and only if one value -/
theorem pu_one (P : Nat → Nat → Int32) (b c : Nat) : pu_cn (fun i => !decide (P (16 * b + (i + 1)) c = P (16 * b + i) c)) 15 = 0 ↔ pu_cn (pu_fst P b c) 16 = 1 := by
  rw [pu_cn_0]
  constructor
  · intro h
    have all : ∀ i, i < 16 → P (16 * b + i) c = P (16 * b + 0) c := by
      intro i
      induction i with
      | zero => intro _; rfl
      | succ i ih =>
        intro hi
        have h1 := h i (by omega)
        simp only [Bool.not_eq_false', decide_eq_true_eq] at h1
        rw [h1, ih (by omega)]
    have cnt : ∀ i, i < 16 → pu_cn (pu_fst P b c) (i + 1) = 1 := by
      intro i
      induction i with
      | zero => intro _; exact pu_cn_t (pu_fst0 P b c)
      | succ i ih =>
        intro hi
        rw [pu_cn_f (pu_fst_f.mpr ⟨0, by omega, (all (i + 1) hi).symm⟩)]
        exact ih (by omega)
    exact cnt 15 (by decide)
  · intro h
    have fs : ∀ i, 0 < i → i < 16 → pu_fst P b c i = false := by
      intro i h0 hi
      cases q : pu_fst P b c i with
      | false => rfl
      | true =>
        have a1 := pu_cn_lt hi q
        have a2 := pu_cn_lt h0 (pu_fst0 P b c)
        omega
    have all : ∀ i, i < 16 → P (16 * b + i) c = P (16 * b + 0) c := by
      intro i
      induction i using Nat.strongRecOn with
      | ind i ih =>
        intro hi
        by_cases h0 : i = 0
        · rw [h0]
        · obtain ⟨k, hk, e⟩ := pu_fst_f.mp (fs i (by omega) hi)
          rw [← e]
          exact ih k hk (by omega)
    intro i hi
    rw [all (i + 1) (by omega), all i (by omega), decide_eq_true rfl]
    rfl
