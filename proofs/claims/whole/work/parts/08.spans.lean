/-! frame and steps -/
variable {n m : Nat} {fp : Int32} {xv xp xt yv yp yt d cc cl ch : Nat → Int32} {V P : Nat → Nat → Int32}
/-- digits in a form on both sides: the same, or the form can't be used -/
def dg_R (a b : Nat) : Prop := (a = b ∧ a < 10000) ∨ (a = 1000000 ∧ b = 10000)
def fr_lo (lo x : Int64) : Int64 := if lo ≤ x then lo else x
def fr_hi (hi x : Int64) : Int64 := if x ≤ hi then hi else x
def fr_B (L : Int) (lo hi : Int64) : Prop := -L ≤ lo.toInt ∧ lo.toInt ≤ hi.toInt ∧ hi.toInt < L
theorem fr_Bs {L : Int} {lo hi x : Int64} (h : fr_B L lo hi) (h1 : -L ≤ x.toInt) (h2 : x.toInt < L) : fr_B L (fr_lo lo x) (fr_hi hi x) := by
  obtain ⟨a, b, c⟩ := h
  unfold fr_B fr_lo fr_hi
  have p := Int64.le_iff_toInt_le (x := lo) (y := x)
  have q := Int64.le_iff_toInt_le (x := x) (y := hi)
  by_cases p1 : lo ≤ x
  · by_cases q1 : x ≤ hi
    · rw [if_pos p1, if_pos q1]; exact ⟨a, b, c⟩
    · rw [if_pos p1, if_neg q1]
      exact ⟨a, p.mp p1, h2⟩
  · by_cases q1 : x ≤ hi
    · rw [if_neg p1, if_pos q1]; exact ⟨h1, q.mp q1, c⟩
    · rw [if_neg p1, if_neg q1]; exact ⟨h1, Int.le_refl _, h2⟩
theorem i6_x (x : Int32) : x.toInt64.toInt = x.toInt := Int32.toInt_toInt64 x
theorem i6_b (x : Int32) : -2147483648 ≤ x.toInt ∧ x.toInt < 2147483648 := ⟨Int32.le_toInt x, Int32.toInt_lt x⟩
theorem i6_sub {a b : Int64} (h1 : -1000000000000 ≤ a.toInt - b.toInt) (h2 : a.toInt - b.toInt < 1000000000000) : (a - b).toInt = a.toInt - b.toInt := by
  rw [Int64.toInt_sub]
  exact Int.bmod_eq_of_le (by omega) (by omega)
theorem i6_step (x y : Int32) : (x.toInt64 - y.toInt64).toInt = x.toInt - y.toInt := by
  have a := i6_b x
  have b := i6_b y
  rw [i6_sub, i6_x, i6_x] <;> rw [i6_x, i6_x] <;> omega
theorem i6_span {lo hi : Int64} (h : fr_B 4294967296 lo hi) : ∃ s : Nat, s < 10000000000 ∧ hi - lo = lN s ∧ (s : Int) = hi.toInt - lo.toInt := by
  obtain ⟨a, b, c⟩ := h
  refine ⟨(hi.toInt - lo.toInt).toNat, by omega, ?_, by omega⟩
  apply Int64.toInt_inj.mp
  rw [pk_lT (by omega), i6_sub (by omega) (by omega)]
  omega
theorem i6_int (x : Int64) : x = x.toInt32.toInt64 ↔ -2147483648 ≤ x.toInt ∧ x.toInt < 2147483648 := by
  constructor
  · intro h
    rw [h, i6_x]
    exact i6_b _
  · intro ⟨a, b⟩
    apply Int64.toInt_inj.mp
    rw [i6_x, Int64.toInt_toInt32]
    exact (Int.bmod_eq_of_le (by omega) (by omega)).symm
theorem i6_m : (-2147483648 : Int64).toInt = -2147483648 := by decide
theorem i6_p : (2147483647 : Int64).toInt = 2147483647 := by decide
theorem i6_g : (100000000000 : Int64).toInt = 100000000000 := by decide
theorem i6_gm : (-100000000000 : Int64).toInt = -100000000000 := by decide
theorem i6_31 {s : Nat} (hs : s < 10000000000) : (2147483648 : Int64) ≤ lN s ↔ 2147483648 ≤ s := pk_lLE (a := 2147483648) (by decide) (by omega)
theorem ax_38 (w : Nat) : 38 + (16 * nI w) = nI (38 + 16 * w) := by
  show nI 38 + nI 16 * nI w = _
  rw [pk_mul, nI_add]
theorem ax_70 (w : Nat) : 70 + (15 * nI w) = nI (70 + 15 * w) := by
  show nI 70 + nI 15 * nI w = _
  rw [pk_mul, nI_add]
theorem ax_32 (k w : Nat) : (32 * nI k) + (16 * nI w) = nI (32 * k + 16 * w) := by
  show nI 32 * nI k + nI 16 * nI w = _
  rw [pk_mul, pk_mul, nI_add]
theorem ax_37 (k : Nat) : 37 * nI k = nI (37 * k) := pk_mul 37 k
theorem jx_f46 {post : Int32 → Prop} {J : Int64 → Int64 → Int32 → Prop} {x1 : Int32} {hi x z : Int64} {i : Nat} (h : J z (fr_hi hi x) (nI (i + 1))) : wX_frameDigits_46 post J x1 hi (nI i) x z (nI n) fp (nI m) xv xp xt d cc cl ch := by
  unfold fr_hi at h
  by_cases q : x ≤ hi
  · rw [if_pos q] at h; exact br_t q (nm_r (nI_1 i) h)
  · rw [if_neg q] at h; exact br_f q (nm_r (nI_1 i) h)
theorem jy_f46 {post : Int32 → Prop} {J : Int64 → Int64 → Int32 → Prop} {x1 x2 : Int32} {hi x z : Int64} {i : Nat} (h : J z (fr_hi hi x) (nI (i + 1))) : wY_frameDigits_46 post J x1 x2 hi (nI i) x z (nI n) fp (nI m) yv yp yt d cc cl ch := by
  unfold fr_hi at h
  by_cases q : x ≤ hi
  · rw [if_pos q] at h; exact br_t q (nm_r (nI_1 i) h)
  · rw [if_neg q] at h; exact br_f q (nm_r (nI_1 i) h)
theorem jx_s42 {post : Int32 → Prop} {J : Int64 → Int64 → Int32 → Prop} {x1 : Int32} {hi x z : Int64} {i : Nat} (h : J z (fr_hi hi x) (nI (i + 1))) : wX_stepsDigits_42 post J x1 hi (nI i) x z (nI n) fp (nI m) xv xp xt d cc cl ch := by
  unfold fr_hi at h
  by_cases q : x ≤ hi
  · rw [if_pos q] at h; exact br_t q (nm_r (nI_1 i) h)
  · rw [if_neg q] at h; exact br_f q (nm_r (nI_1 i) h)
theorem jy_s55 {post : Int32 → Prop} {J : Int64 → Int64 → Int32 → Prop} {x1 x2 : Int32} {hi x z : Int64} {i : Nat} (h : J z (fr_hi hi x) (nI (i + 1))) : wY_stepDigits_55 post J x1 x2 hi (nI i) x z (nI n) fp (nI m) yv yp yt d cc cl ch := by
  unfold fr_hi at h
  by_cases q : x ≤ hi
  · rw [if_pos q] at h; exact br_t q (nm_r (nI_1 i) h)
  · rw [if_neg q] at h; exact br_f q (nm_r (nI_1 i) h)
theorem jb_frame (HX : jx_H n m xp cc P) (HY : jy_H n m yp cc P) {b c : Nat} (hb : b < 6) (hc : c < 3) : ∀ e t, t + e = 15 → ∀ lo hi : Int64, fr_B 2147483648 lo hi → ∃ a a' : Nat, dg_R a a' ∧ (∀ post : Int32 → Prop, post (nI a) → wX_frameDigits_14 post (nI (c * 96 + b * 16)) (nI n) fp (nI m) xv xp xt d cc cl ch (e + 1) lo hi (nI (t + 1))) ∧ (∀ post : Int32 → Prop, post (nI a') → wY_frameDigits_15 post (nI b) (nI c) (nI n) fp (nI m) yv yp yt d cc cl ch (e + 1) lo hi (nI (t + 1))) := by
  intro e
  induction e with
  | zero =>
    intro t ht lo hi hB
    have h16 : (16 : Int32) ≤ nI (t + 1) := nI_le (a := 16) (by omega) (by omega)
    obtain ⟨s, hs, es, ei⟩ := i6_span (lo := lo) (hi := hi) ⟨by have := hB.1; omega, hB.2.1, by have := hB.2.2; omega⟩
    by_cases q : s < 2147483648
    · have W : ∃ t, t ≤ 31 ∧ (∀ post : Int32 → Prop, post (nI t) → wX_widthOf_2 post (lN s) (nI n) fp (nI m) xv xp xt d cc cl ch (31 + 1) (nI 0)) ∧ (∀ post : Int32 → Prop, post (nI t) → wY_width_2 post (lN s) (nI n) fp (nI m) yv yp yt d cc cl ch (31 + 1) (nI 0)) := wd_both q 31 0 (by omega)
      obtain ⟨w, hw, wX, wY⟩ := W
      refine ⟨38 + 16 * w, 38 + 16 * w, Or.inl ⟨rfl, by omega⟩, fun post hp => br_t h16 ?_, fun post hp => br_t h16 ?_⟩
      · rw [es]
        refine ⟨32, wX _ (br_t (nI_le (b := 31) hw (by decide)) ?_)⟩
        rw [ax_38]
        exact hp
      · rw [es]
        refine br_f (fun z => ?_) ⟨32, wY _ ?_⟩
        · have := (i6_31 hs).mp z
          omega
        · rw [ax_38]
          exact hp
    · refine ⟨1000000, 10000, Or.inr ⟨rfl, rfl⟩, fun post hp => br_t h16 ?_, fun post hp => br_t h16 ?_⟩
      · rw [es]
        exact ⟨33, wd_over (by omega) (by omega) (br_f (by decide) hp) 32 0 (by omega)⟩
      · rw [es]
        exact br_t ((i6_31 hs).mpr (by omega)) hp
  | succ e ih =>
    intro t ht lo hi hB
    have h16 : ¬ (16 : Int32) ≤ nI (t + 1) := nI_ge (b := 16) (by omega) (by decide)
    have hx := i6_x (P (16 * b + (t + 1)) c)
    have hx2 := i6_b (P (16 * b + (t + 1)) c)
    obtain ⟨a, a', hR, hX, hY⟩ := ih (t + 1) (by omega) _ _ (fr_Bs hB (x := (P (16 * b + (t + 1)) c).toInt64) (by omega) (by omega))
    refine ⟨a, a', hR, fun post hp => br_f h16 ⟨bx_i hb hc (by omega), ?_⟩, fun post hp => br_f h16 (by_v HY hb hc (by omega) ?_)⟩
    · rw [bx_v HX hb hc (by omega)]
      refine nm_e ?_
      have hX := hX post hp
      unfold fr_lo at hX
      by_cases q : lo ≤ (P (16 * b + (t + 1)) c).toInt64
      · rw [if_pos q] at hX; exact br_t q (jx_f46 hX)
      · rw [if_neg q] at hX; exact br_f q (jx_f46 hX)
    · have hY := hY post hp
      unfold fr_lo at hY
      by_cases q : lo ≤ (P (16 * b + (t + 1)) c).toInt64
      · rw [if_pos q] at hY; exact br_t q (jy_f46 hY)
      · rw [if_neg q] at hY; exact br_f q (jy_f46 hY)
theorem bx_step (HX : jx_H n m xp cc P) {b c i : Nat} (hb : b < 6) (hc : c < 3) (hi : i + 1 < 16) {x : Int32} (hx : x = nI (c * 96 + b * 16) + nI i) {post : Int64 → Prop} (h : post ((P (16 * b + (i + 1)) c).toInt64 - (P (16 * b + i) c).toInt64)) : wpX_stepBehind post (nI n, fp, nI m, xv, xp, xt, d, cc, cl, ch) x := by
  have e1 : x + 1 = nI (c * 96 + b * 16) + nI (i + 1) := by rw [hx, nI_add, nI_add]; exact nI_1 _
  refine ⟨?_, ?_, ?_⟩
  · rw [e1]; exact bx_i hb hc hi
  · rw [hx]; exact bx_i hb hc (by omega)
  · rw [e1, hx, bx_v HX hb hc hi, bx_v HX hb hc (by omega)]
    exact h
theorem jb_steps (HX : jx_H n m xp cc P) (HY : jy_H n m yp cc P) {b c : Nat} (hb : b < 6) (hc : c < 3) : ∀ e t, t + e = 14 → ∀ lo hi : Int64, fr_B 4294967296 lo hi → ∃ a a' : Nat, dg_R a a' ∧ (∀ post : Int32 → Prop, post (nI a) → wX_stepsDigits_12 post (nI (c * 96 + b * 16)) (nI n) fp (nI m) xv xp xt d cc cl ch (e + 1) lo hi (nI (t + 1))) ∧ (∀ post : Int32 → Prop, post (nI a') → wY_stepDigits_12 post (nI b) (nI c) (nI n) fp (nI m) yv yp yt d cc cl ch (e + 1) lo hi (nI (t + 2))) := by
  intro e
  induction e with
  | zero =>
    intro t ht lo hi hB
    have h15 : (15 : Int32) ≤ nI (t + 1) := nI_le (a := 15) (by omega) (by omega)
    have h16 : (16 : Int32) ≤ nI (t + 2) := nI_le (a := 16) (by omega) (by omega)
    obtain ⟨s, hs, es, ei⟩ := i6_span hB
    obtain ⟨b1, b2, b3⟩ := hB
    by_cases q1 : lo.toInt < -2147483648
    · have x1 : ¬ lo = lo.toInt32.toInt64 := fun z => by have := (i6_int lo).mp z; omega
      have y1 : lo < -2147483648 := Int64.lt_iff_toInt_lt.mpr (by rw [i6_m]; exact q1)
      exact ⟨1000000, 10000, Or.inr ⟨rfl, rfl⟩, fun post hp => br_t h15 (br_f x1 hp), fun post hp => br_t h16 (br_t y1 (br_t rfl hp))⟩
    · have y1 : ¬ lo < -2147483648 := fun z => by have := Int64.lt_iff_toInt_lt.mp z; rw [i6_m] at this; exact q1 this
      by_cases q2 : 2147483647 < hi.toInt
      · have x2 : ¬ hi = hi.toInt32.toInt64 := fun z => by have := (i6_int hi).mp z; omega
        have y2 : 2147483647 < hi := Int64.lt_iff_toInt_lt.mpr (by rw [i6_p]; exact q2)
        exact ⟨1000000, 10000, Or.inr ⟨rfl, rfl⟩, fun post hp => br_t h15 (br_c (fun _ => br_f x2 hp) (fun _ => hp)), fun post hp => br_t h16 (br_f y1 (br_t y2 (br_t rfl hp)))⟩
      · have y2 : ¬ 2147483647 < hi := fun z => by have := Int64.lt_iff_toInt_lt.mp z; rw [i6_p] at this; exact q2 this
        have x1 : lo = lo.toInt32.toInt64 := (i6_int lo).mpr ⟨by omega, by omega⟩
        have x2 : hi = hi.toInt32.toInt64 := (i6_int hi).mpr ⟨by omega, by omega⟩
        by_cases q : s < 2147483648
        · have W : ∃ t, t ≤ 31 ∧ (∀ post : Int32 → Prop, post (nI t) → wX_widthOf_2 post (lN s) (nI n) fp (nI m) xv xp xt d cc cl ch (31 + 1) (nI 0)) ∧ (∀ post : Int32 → Prop, post (nI t) → wY_width_2 post (lN s) (nI n) fp (nI m) yv yp yt d cc cl ch (31 + 1) (nI 0)) := wd_both q 31 0 (by omega)
          obtain ⟨w, hw, wX, wY⟩ := W
          have y3 : ¬ 2147483648 ≤ hi - lo := fun z => by
            rw [es] at z
            have := (i6_31 hs).mp z
            omega
          refine ⟨70 + 15 * w, 70 + 15 * w, Or.inl ⟨rfl, by omega⟩, fun post hp => br_t h15 (br_t x1 (br_t x2 ?_)), fun post hp => br_t h16 (br_f y1 (br_f y2 (br_f y3 (br_f (by decide) ?_))))⟩
          · rw [es]
            refine ⟨32, wX _ (br_t (nI_le (b := 31) hw (by decide)) ?_)⟩
            rw [ax_70]
            exact hp
          · rw [es]
            refine ⟨32, wY _ ?_⟩
            rw [ax_70]
            exact hp
        · have y3 : 2147483648 ≤ hi - lo := by
            rw [es]
            exact (i6_31 hs).mpr (by omega)
          refine ⟨1000000, 10000, Or.inr ⟨rfl, rfl⟩, fun post hp => br_t h15 (br_t x1 (br_t x2 ?_)), fun post hp => br_t h16 (br_f y1 (br_f y2 (br_t y3 (br_t rfl hp))))⟩
          rw [es]
          exact ⟨33, wd_over (by omega) (by omega) (br_f (by decide) hp) 32 0 (by omega)⟩
  | succ e ih =>
    intro t ht lo hi hB
    have h15 : ¬ (15 : Int32) ≤ nI (t + 1) := nI_ge (b := 15) (by omega) (by decide)
    have h16 : ¬ (16 : Int32) ≤ nI (t + 2) := nI_ge (b := 16) (by omega) (by decide)
    have hx := i6_step (P (16 * b + (t + 1 + 1)) c) (P (16 * b + (t + 1)) c)
    have hx2 := i6_b (P (16 * b + (t + 1 + 1)) c)
    have hx3 := i6_b (P (16 * b + (t + 1)) c)
    obtain ⟨a, a', hR, hX, hY⟩ := ih (t + 1) (by omega) _ _ (fr_Bs hB (x := (P (16 * b + (t + 1 + 1)) c).toInt64 - (P (16 * b + (t + 1)) c).toInt64) (by omega) (by omega))
    refine ⟨a, a', hR, fun post hp => br_f h15 (bx_step HX hb hc (by omega) rfl ?_), fun post hp => br_f h16 (by_v HY hb hc (by omega) ?_)⟩
    · have hX := hX post hp
      unfold fr_lo at hX
      by_cases q : lo ≤ (P (16 * b + (t + 1 + 1)) c).toInt64 - (P (16 * b + (t + 1)) c).toInt64
      · rw [if_pos q] at hX; exact br_t q (jx_s42 hX)
      · rw [if_neg q] at hX; exact br_f q (jx_s42 hX)
    · rw [nI_pred]
      refine by_v HY hb hc (by omega) (nm_e ?_)
      have hY := hY post hp
      unfold fr_lo at hY
      by_cases q : lo ≤ (P (16 * b + (t + 1 + 1)) c).toInt64 - (P (16 * b + (t + 1)) c).toInt64
      · rw [if_pos q] at hY; exact br_t q (jy_s55 hY)
      · rw [if_neg q] at hY; exact br_f q (jy_s55 hY)
theorem jb_steps0 (HX : jx_H n m xp cc P) (HY : jy_H n m yp cc P) {b c : Nat} (hb : b < 6) (hc : c < 3) : ∃ a a' : Nat, dg_R a a' ∧ (∀ post : Int32 → Prop, post (nI a) → wpX_stepsDigits post (nI n, fp, nI m, xv, xp, xt, d, cc, cl, ch) (nI (c * 96 + b * 16))) ∧ (∀ post : Int32 → Prop, post (nI a') → wpY_stepDigits post (nI n, fp, nI m, yv, yp, yt, d, cc, cl, ch) (nI b) (nI c)) := by
  have hx := i6_step (P (16 * b + (0 + 1)) c) (P (16 * b + 0) c)
  have hx2 := i6_b (P (16 * b + (0 + 1)) c)
  have hx3 := i6_b (P (16 * b + 0) c)
  have K : ∃ a a' : Nat, dg_R a a' ∧ (∀ post : Int32 → Prop, post (nI a) → wX_stepsDigits_12 post (nI (c * 96 + b * 16)) (nI n) fp (nI m) xv xp xt d cc cl ch (14 + 1) ((P (16 * b + (0 + 1)) c).toInt64 - (P (16 * b + 0) c).toInt64) ((P (16 * b + (0 + 1)) c).toInt64 - (P (16 * b + 0) c).toInt64) (nI (0 + 1))) ∧ (∀ post : Int32 → Prop, post (nI a') → wY_stepDigits_12 post (nI b) (nI c) (nI n) fp (nI m) yv yp yt d cc cl ch (14 + 1) ((P (16 * b + (0 + 1)) c).toInt64 - (P (16 * b + 0) c).toInt64) ((P (16 * b + (0 + 1)) c).toInt64 - (P (16 * b + 0) c).toInt64) (nI (0 + 2))) := jb_steps HX HY hb hc 14 0 (by omega) _ _ ⟨by omega, Int.le_refl _, by omega⟩
  obtain ⟨a, a', hR, hX, hY⟩ := K
  refine ⟨a, a', hR, fun post hp => ?_, fun post hp => ?_⟩
  · unfold wpX_stepsDigits
    refine bx_step HX hb hc (i := 0) (by omega) ?_ ⟨15, hX post hp⟩
    rw [nI_0, Int32.add_zero]
  · refine ⟨16, br_f (by decide) ?_⟩
    refine by_v HY hb hc (i := 1) (by omega) ?_
    refine by_v HY hb hc (i := 0) (by omega) (nm_e ?_)
    have hY := hY post hp
    generalize (P (16 * b + (0 + 1)) c).toInt64 - (P (16 * b + 0) c).toInt64 = x at hx hY ⊢
    have q1 : ¬ 100000000000 ≤ x := fun z => by
      have := Int64.le_iff_toInt_le.mp z
      rw [i6_g] at this
      omega
    have q2 : ¬ x ≤ -100000000000 := fun z => by
      have := Int64.le_iff_toInt_le.mp z
      rw [i6_gm] at this
      omega
    exact br_f q1 (br_f q2 (nm_e hY))
theorem jb_frame0 (HX : jx_H n m xp cc P) (HY : jy_H n m yp cc P) {b c : Nat} (hb : b < 6) (hc : c < 3) : ∃ a a' : Nat, dg_R a a' ∧ (∀ post : Int32 → Prop, post (nI a) → wpX_frameDigits post (nI n, fp, nI m, xv, xp, xt, d, cc, cl, ch) (nI (c * 96 + b * 16))) ∧ (∀ post : Int32 → Prop, post (nI a') → wpY_frameDigits post (nI n, fp, nI m, yv, yp, yt, d, cc, cl, ch) (nI b) (nI c)) := by
  have hx := i6_x (P (16 * b + 0) c)
  have hx2 := i6_b (P (16 * b + 0) c)
  have K : ∃ a a' : Nat, dg_R a a' ∧ (∀ post : Int32 → Prop, post (nI a) → wX_frameDigits_14 post (nI (c * 96 + b * 16)) (nI n) fp (nI m) xv xp xt d cc cl ch (15 + 1) (P (16 * b + 0) c).toInt64 (P (16 * b + 0) c).toInt64 (nI (0 + 1))) ∧ (∀ post : Int32 → Prop, post (nI a') → wY_frameDigits_15 post (nI b) (nI c) (nI n) fp (nI m) yv yp yt d cc cl ch (15 + 1) (P (16 * b + 0) c).toInt64 (P (16 * b + 0) c).toInt64 (nI (0 + 1))) := jb_frame HX HY hb hc 15 0 (by omega) _ _ ⟨by omega, Int.le_refl _, by omega⟩
  obtain ⟨a, a', hR, hX, hY⟩ := K
  have e0 : nI (c * 96 + b * 16) = nI (c * 96 + b * 16) + nI 0 := by rw [nI_0, Int32.add_zero]
  refine ⟨a, a', hR, fun post hp => ⟨?_, nm_r (e' := (P (16 * b + 0) c).toInt64) ?_ ⟨16, hX post hp⟩⟩, fun post hp => ?_⟩
  · rw [e0]; exact bx_i hb hc (by omega)
  · rw [e0, bx_v HX hb hc (by omega)]
  · unfold wpY_frameDigits
    exact by_v HY hb hc (i := 0) (by omega) ⟨16, hY post hp⟩
