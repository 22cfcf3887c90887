/-! the six forms, the smallest of them, form and digits -/
variable {n m : Nat} {fp : Int32} {xv xp xt yv yp yt d cc cl ch : Nat → Int32} {V P : Nat → Nat → Int32}
theorem jb_single (HX : jx_H n m xp cc P) (HY : jy_H n m yp cc P) {b c : Nat} (hb : b < 6) (hc : c < 3) : ∃ a a' : Nat, dg_R a a' ∧ (∀ post : Int32 → Prop, post (nI a) → wpX_digitsIn post (nI n, fp, nI m, xv, xp, xt, d, cc, cl, ch) (nI 1) (nI (c * 96 + b * 16))) ∧ (∀ post : Int32 → Prop, post (nI a') → wpY_digitsOf post (nI n, fp, nI m, yv, yp, yt, d, cc, cl, ch) (nI b) (nI c) (nI 1)) := by
  have one := pu_one P b c
  have l1 := pu_cn_le (pu_fst P b c) 16
  have l2 := pu_cn_le (fun i => !decide (P (16 * b + (i + 1)) c = P (16 * b + i) c)) 15
  have toX : ∀ post : Int32 → Prop, wpX_singleDigits (fun r => post r) (nI n, fp, nI m, xv, xp, xt, d, cc, cl, ch) (nI (c * 96 + b * 16)) → wpX_digitsIn post (nI n, fp, nI m, xv, xp, xt, d, cc, cl, ch) (nI 1) (nI (c * 96 + b * 16)) := fun post h => br_f (by decide) (br_f (by decide) (br_f (by decide) (br_t (by decide) h)))
  have toY : ∀ post : Int32 → Prop, ((nI (pu_cn (pu_fst P b c) 16) = 1 → post 32) ∧ (¬ nI (pu_cn (pu_fst P b c) 16) = 1 → post 10000)) → wpY_digitsOf post (nI n, fp, nI m, yv, yp, yt, d, cc, cl, ch) (nI b) (nI c) (nI 1) := by
    intro post h
    unfold wpY_digitsOf
    exact jy_dist HY hb hc (br_f (by decide) (br_f (by decide) h))
  by_cases q : pu_cn (pu_fst P b c) 16 = 1
  · refine ⟨32, 32, Or.inl ⟨rfl, by decide⟩, fun post hp => toX post ?_, fun post hp => toY post (br_t (by rw [q]; rfl) hp)⟩
    unfold wpX_singleDigits
    refine jx_str HX hb hc ?_
    rw [one.mpr q]
    exact br_t rfl hp
  · refine ⟨1000000, 10000, Or.inr ⟨rfl, rfl⟩, fun post hp => toX post ?_, fun post hp => toY post (br_f (fun z => q ((nI_eq (b := 1) (by omega) (by decide)).mp z)) hp)⟩
    unfold wpX_singleDigits
    refine jx_str HX hb hc (br_f (fun z => ?_) hp)
    have := (nI_eq (b := 1) (by omega) (by decide)).mp z
    exact q (one.mp (by omega))
theorem jb_runs (HX : jx_H n m xp cc P) (HY : jy_H n m yp cc P) {b c : Nat} (hb : b < 6) (hc : c < 3) : ∃ a a' : Nat, dg_R a a' ∧ (∀ post : Int32 → Prop, post (nI a) → wpX_digitsIn post (nI n, fp, nI m, xv, xp, xt, d, cc, cl, ch) (nI 2) (nI (c * 96 + b * 16))) ∧ (∀ post : Int32 → Prop, post (nI a') → wpY_digitsOf post (nI n, fp, nI m, yv, yp, yt, d, cc, cl, ch) (nI b) (nI c) (nI 2)) := by
  have l2 := pu_cn_le (fun i => !decide (P (16 * b + (i + 1)) c = P (16 * b + i) c)) 15
  refine ⟨37 * (pu_cn (fun i => !decide (P (16 * b + (i + 1)) c = P (16 * b + i) c)) 15 + 1), _, Or.inl ⟨rfl, by omega⟩, fun post hp => br_f (by decide) (br_f (by decide) (br_f (by decide) (br_f (by decide) (br_t (by decide) (jx_str HX hb hc ?_))))), fun post hp => ?_⟩
  · rw [ax_37]
    exact hp
  · unfold wpY_digitsOf
    refine jy_dist HY hb hc (br_t (by decide) (br_f (by decide) (br_t (by decide) (jy_run HY hb hc ?_))))
    rw [ax_37]
    exact hp
theorem jb_list (HX : jx_H n m xp cc P) (HY : jy_H n m yp cc P) {b c : Nat} (hb : b < 6) (hc : c < 3) : ∃ a a' : Nat, dg_R a a' ∧ (∀ post : Int32 → Prop, post (nI a) → wpX_digitsIn post (nI n, fp, nI m, xv, xp, xt, d, cc, cl, ch) (nI 3) (nI (c * 96 + b * 16))) ∧ (∀ post : Int32 → Prop, post (nI a') → wpY_digitsOf post (nI n, fp, nI m, yv, yp, yt, d, cc, cl, ch) (nI b) (nI c) (nI 3)) := by
  have l1 := pu_cn_le (pu_fst P b c) 16
  have l0 := pu_dist_pos P b c
  have toX : ∀ post : Int32 → Prop, wX_listDigits_4 (fun r => post r) (nI (c * 96 + b * 16)) (nI n) fp (nI m) xv xp xt d cc cl ch 1 (nI (pu_cn (pu_fst P b c) 16)) 16 → wpX_digitsIn post (nI n, fp, nI m, xv, xp, xt, d, cc, cl, ch) (nI 3) (nI (c * 96 + b * 16)) := fun post h => br_f (by decide) (br_f (by decide) (br_f (by decide) (br_f (by decide) (br_f (by decide) (br_t (by decide) ⟨17, jx_list4 HX hb hc h 16 0 (by omega)⟩)))))
  have toY : ∀ post : Int32 → Prop, ((8 < nI (pu_cn (pu_fst P b c) 16) → post 10000) ∧ (¬ 8 < nI (pu_cn (pu_fst P b c) 16) → wpY_width (fun r => post ((32 * nI (pu_cn (pu_fst P b c) 16)) + (16 * r))) (nI n, fp, nI m, yv, yp, yt, d, cc, cl, ch) ((nI (pu_cn (pu_fst P b c) 16) - 1).toInt64))) → wpY_digitsOf post (nI n, fp, nI m, yv, yp, yt, d, cc, cl, ch) (nI b) (nI c) (nI 3) := by
    intro post h
    unfold wpY_digitsOf
    exact jy_dist HY hb hc (br_t (by decide) (br_t (by decide) h))
  have e1 : (nI (pu_cn (pu_fst P b c) 16) - 1).toInt64 = lN (pu_cn (pu_fst P b c) 16 - 1) := by
    have : nI (pu_cn (pu_fst P b c) 16) - 1 = nI (pu_cn (pu_fst P b c) 16 - 1) := pk_sub (b := 1) l0
    rw [this, nI_l (by omega)]
  by_cases q : pu_cn (pu_fst P b c) 16 ≤ 8
  · have W : ∃ t, t ≤ 31 ∧ (∀ post : Int32 → Prop, post (nI t) → wX_widthOf_2 post (lN (pu_cn (pu_fst P b c) 16 - 1)) (nI n) fp (nI m) xv xp xt d cc cl ch (31 + 1) (nI 0)) ∧ (∀ post : Int32 → Prop, post (nI t) → wY_width_2 post (lN (pu_cn (pu_fst P b c) 16 - 1)) (nI n) fp (nI m) yv yp yt d cc cl ch (31 + 1) (nI 0)) := wd_both (by omega) 31 0 (by omega)
    obtain ⟨w, hw, wX, wY⟩ := W
    refine ⟨32 * pu_cn (pu_fst P b c) 16 + 16 * w, _, Or.inl ⟨rfl, by omega⟩, fun post hp => toX post (br_t (by decide) (br_t (nI_le (b := 8) q (by decide)) ?_)), fun post hp => toY post (br_f (nI_nlt (a := 8) q (by decide)) ?_)⟩
    · rw [e1]
      refine ⟨32, wX _ ?_⟩
      rw [ax_32]
      exact hp
    · rw [e1]
      refine ⟨32, wY _ ?_⟩
      rw [ax_32]
      exact hp
  · exact ⟨1000000, 10000, Or.inr ⟨rfl, rfl⟩, fun post hp => toX post (br_t (by decide) (br_f (nI_ge (a := 8) (by omega) (by omega)) hp)), fun post hp => toY post (br_t (nI_lt (a := 8) (by omega) (by omega)) hp)⟩
theorem jb_dig (HX : jx_H n m xp cc P) (HY : jy_H n m yp cc P) {b c : Nat} (hb : b < 6) (hc : c < 3) (f : Nat) : ∃ q : Nat × Nat, f < 6 → (dg_R q.1 q.2 ∧ (f = 0 → q.1 = 512) ∧ (∀ post : Int32 → Prop, post (nI q.1) → wpX_digitsIn post (nI n, fp, nI m, xv, xp, xt, d, cc, cl, ch) (nI f) (nI (c * 96 + b * 16))) ∧ (∀ post : Int32 → Prop, post (nI q.2) → wpY_digitsOf post (nI n, fp, nI m, yv, yp, yt, d, cc, cl, ch) (nI b) (nI c) (nI f))) := by
  match f with
  | 0 =>
    refine ⟨(512, 512), fun _ => ⟨Or.inl ⟨rfl, by decide⟩, fun _ => rfl, fun post hp => br_f (by decide) (br_f (by decide) (br_t (by decide) hp)), fun post hp => ?_⟩⟩
    unfold wpY_digitsOf
    exact jy_dist HY hb hc (br_f (by decide) (br_t (by decide) hp))
  | 1 => obtain ⟨a, a', h1, h2, h3⟩ := jb_single (fp := fp) (xv := xv) (xt := xt) (yv := yv) (yt := yt) (d := d) (cl := cl) (ch := ch) HX HY hb hc; exact ⟨(a, a'), fun _ => ⟨h1, nofun, h2, h3⟩⟩
  | 2 => obtain ⟨a, a', h1, h2, h3⟩ := jb_runs (fp := fp) (xv := xv) (xt := xt) (yv := yv) (yt := yt) (d := d) (cl := cl) (ch := ch) HX HY hb hc; exact ⟨(a, a'), fun _ => ⟨h1, nofun, h2, h3⟩⟩
  | 3 => obtain ⟨a, a', h1, h2, h3⟩ := jb_list (fp := fp) (xv := xv) (xt := xt) (yv := yv) (yt := yt) (d := d) (cl := cl) (ch := ch) HX HY hb hc; exact ⟨(a, a'), fun _ => ⟨h1, nofun, h2, h3⟩⟩
  | 4 =>
    obtain ⟨a, a', h1, h2, h3⟩ := jb_frame0 (fp := fp) (xv := xv) (xt := xt) (yv := yv) (yt := yt) (d := d) (cl := cl) (ch := ch) HX HY hb hc
    refine ⟨(a, a'), fun _ => ⟨h1, nofun, fun post hp => br_f (by decide) (br_f (by decide) (br_f (by decide) (br_f (by decide) (br_f (by decide) (br_f (by decide) (br_t (by decide) (h2 _ hp))))))), fun post hp => ?_⟩⟩
    unfold wpY_digitsOf
    exact jy_dist HY hb hc (br_t (by decide) (br_f (by decide) (br_f (by decide) (br_t (by decide) (h3 _ hp)))))
  | 5 =>
    obtain ⟨a, a', h1, h2, h3⟩ := jb_steps0 (fp := fp) (xv := xv) (xt := xt) (yv := yv) (yt := yt) (d := d) (cl := cl) (ch := ch) HX HY hb hc
    refine ⟨(a, a'), fun _ => ⟨h1, nofun, fun post hp => br_f (by decide) (br_t (by decide) (h2 _ hp)), fun post hp => ?_⟩⟩
    unfold wpY_digitsOf
    exact jy_dist HY hb hc (br_t (by decide) (br_f (by decide) (br_f (by decide) (br_f (by decide) (h3 _ hp)))))
  | _ + 6 => exact ⟨(0, 0), fun h => by omega⟩
theorem jb_best9 {b c : Nat} {g : Nat → Nat × Nat} (G : ∀ f, f < 6 → (dg_R (g f).1 (g f).2 ∧ (f = 0 → (g f).1 = 512) ∧ (∀ post : Int32 → Prop, post (nI (g f).1) → wpX_digitsIn post (nI n, fp, nI m, xv, xp, xt, d, cc, cl, ch) (nI f) (nI (c * 96 + b * 16))) ∧ (∀ post : Int32 → Prop, post (nI (g f).2) → wpY_digitsOf post (nI n, fp, nI m, yv, yp, yt, d, cc, cl, ch) (nI b) (nI c) (nI f)))) : ∀ e f o, f + e = 6 → o < 6 → (g o).1 = (g o).2 → (g o).1 < 10000 → ∃ o', o' < 6 ∧ (g o').1 = (g o').2 ∧ (∀ post : Int32 → Prop, post (nI o') → wX_smallestForm_9 post (nI (c * 96 + b * 16)) (nI n) fp (nI m) xv xp xt d cc cl ch (e + 1) (nI o) (nI (g o).1) (nI f)) ∧ (∀ post : Int32 → Prop, post (nI o') → wY_best_5 post (nI b) (nI c) (nI n) fp (nI m) yv yp yt d cc cl ch (e + 1) (nI o) (nI f)) := by
  intro e
  induction e with
  | zero =>
    intro f o hf ho h1 h2
    have h6 : (6 : Int32) ≤ nI f := nI_le (a := 6) (by omega) (by omega)
    exact ⟨o, ho, h1, fun _ hp => br_t h6 hp, fun _ hp => br_t h6 hp⟩
  | succ e ih =>
    intro f o hf ho h1 h2
    have h6 : ¬ (6 : Int32) ≤ nI f := nI_ge (b := 6) (by omega) (by decide)
    obtain ⟨R, _, gX, gY⟩ := G f (by omega)
    obtain ⟨_, _, _, oY⟩ := G o ho
    by_cases q : (g f).1 < (g o).1
    · have q1 : (g f).1 = (g f).2 := by rcases R with R | R <;> omega
      have x1 : ¬ nI (g o).1 ≤ nI (g f).1 := nI_ge q (by omega)
      have y1 : ¬ nI (g o).2 ≤ nI (g f).2 := nI_ge (by omega) (by omega)
      obtain ⟨o', a1, a2, hX, hY⟩ := ih (f + 1) f (by omega) (by omega) q1 (by omega)
      exact ⟨o', a1, a2, fun post hp => br_f h6 (gX _ (br_f x1 (nm_r (nI_1 f) (hX post hp)))), fun post hp => br_f h6 (gY _ (oY _ (br_f y1 (nm_r (nI_1 f) (hY post hp)))))⟩
    · have x1 : nI (g o).1 ≤ nI (g f).1 := nI_le (by omega) (by rcases R with R | R <;> omega)
      have y1 : nI (g o).2 ≤ nI (g f).2 := nI_le (by rcases R with R | R <;> omega) (by rcases R with R | R <;> omega)
      obtain ⟨o', a1, a2, hX, hY⟩ := ih (f + 1) o (by omega) ho h1 h2
      exact ⟨o', a1, a2, fun post hp => br_f h6 (gX _ (br_t x1 (nm_r (nI_1 f) (hX post hp)))), fun post hp => br_f h6 (gY _ (oY _ (br_t y1 (nm_r (nI_1 f) (hY post hp)))))⟩
/-- a column of a block: the same form and the same digits on both sides -/
theorem jb_blk (HX : jx_H n m xp cc P) (HY : jy_H n m yp cc P) {b c : Nat} (hb : b < 6) (hc : c < 3) : ∃ o v : Nat, (∀ post : Int32 → Prop, post (nI o) → wpX_smallestForm post (nI n, fp, nI m, xv, xp, xt, d, cc, cl, ch) (nI (c * 96 + b * 16))) ∧ (∀ post : Int32 → Prop, post (nI v) → wpX_digitsIn post (nI n, fp, nI m, xv, xp, xt, d, cc, cl, ch) (nI o) (nI (c * 96 + b * 16))) ∧ (∀ post : Int32 → Prop, post (nI o) → wpY_best post (nI n, fp, nI m, yv, yp, yt, d, cc, cl, ch) (nI b) (nI c)) ∧ (∀ post : Int32 → Prop, post (nI v) → wpY_digitsOf post (nI n, fp, nI m, yv, yp, yt, d, cc, cl, ch) (nI b) (nI c) (nI o)) := by
  have D := jb_dig (fp := fp) (xv := xv) (xt := xt) (yv := yv) (yt := yt) (d := d) (cl := cl) (ch := ch) HX HY hb hc
  obtain ⟨g, G⟩ : ∃ g : Nat → Nat × Nat, ∀ f, f < 6 → (dg_R (g f).1 (g f).2 ∧ (f = 0 → (g f).1 = 512) ∧ (∀ post : Int32 → Prop, post (nI (g f).1) → wpX_digitsIn post (nI n, fp, nI m, xv, xp, xt, d, cc, cl, ch) (nI f) (nI (c * 96 + b * 16))) ∧ (∀ post : Int32 → Prop, post (nI (g f).2) → wpY_digitsOf post (nI n, fp, nI m, yv, yp, yt, d, cc, cl, ch) (nI b) (nI c) (nI f))) := ⟨fun f => Classical.choose (D f), fun f => Classical.choose_spec (D f)⟩
  have g0 := (G 0 (by decide)).2.1 rfl
  have g1 : (g 0).1 = (g 0).2 := by rcases (G 0 (by decide)).1 with R | R <;> omega
  obtain ⟨o, a1, a2, hX, hY⟩ := jb_best9 G 5 1 0 (by omega) (by decide) g1 (by omega)
  rw [g0] at hX
  refine ⟨o, (g o).1, fun post hp => ⟨6, hX post hp⟩, (G o a1).2.2.1, fun post hp => ⟨6, hY post hp⟩, ?_⟩
  rw [a2]
  exact (G o a1).2.2.2
theorem jb_digits (HX : jx_H n m xp cc P) (HY : jy_H n m yp cc P) {c : Nat} (hc : c < 3) : ∀ e b, b + e = n / 16 → ∀ a : Int32, ∃ r : Int32, (∀ post : Int32 → Prop, post r → wX_digits_24 post (nI c) (nI n) fp (nI m) xv xp xt d cc cl ch (e + 1) a (nI b)) ∧ (∀ post : Int32 → Prop, post r → wY_digits_24 post (nI c) (nI n) fp (nI m) yv yp yt d cc cl ch (e + 1) a (nI b)) := by
  have hn := HX.1
  intro e
  induction e with
  | zero =>
    intro b hb a
    have h : nI (n / 16) ≤ nI b := nI_le (by omega) (by omega)
    refine ⟨a, fun _ hp => ⟨ax_16, ?_⟩, fun _ hp => ⟨ax_16, ?_⟩⟩
    · rw [ax_d hn]
      exact br_t h hp
    · rw [ax_d hn]
      exact br_t h hp
  | succ e ih =>
    intro b hb a
    have h : ¬ nI (n / 16) ≤ nI b := nI_ge (by omega) (by omega)
    obtain ⟨o, v, x1, x2, y1, y2⟩ := jb_blk (fp := fp) (xv := xv) (xt := xt) (yv := yv) (yt := yt) (d := d) (cl := cl) (ch := ch) HX HY (b := b) (by omega) hc
    obtain ⟨r, hX, hY⟩ := ih (b + 1) (by omega) (a + nI v)
    refine ⟨r, fun post hp => ⟨ax_16, ?_⟩, fun post hp => ⟨ax_16, ?_⟩⟩
    · rw [ax_d hn]
      exact br_f h (bx_start (x1 _ (x2 _ (nm_e (nm_r (nI_1 b) (hX post hp))))))
    · rw [ax_d hn]
      exact br_f h (y1 _ (y2 _ (nm_e (nm_r (nI_1 b) (hY post hp)))))
