/-! blocks: where the packed values lie; passed -/
variable {n m : Nat} {fp : Int32} {xv xp xt yv yp yt d cc cl ch : Nat → Int32} {V P : Nat → Nat → Int32}
theorem bx_i {b c i : Nat} (hb : b < 6) (hc : c < 3) (hi : i < 16) : vp_in (nI (c * 96 + b * 16) + nI i) 288 := by
  rw [nI_add]
  exact vp_in_nI (by omega) (by decide)
theorem bx_v (HX : jx_H n m xp cc P) {b c i : Nat} (hb : b < 6) (hc : c < 3) (hi : i < 16) : xp (nI (c * 96 + b * 16) + nI i).toNatClampNeg = P (16 * b + i) c := by
  rw [nI_add, nI_clamp (by omega), ← HX.2.2.2 (16 * b + i) c (by omega) hc]
  exact congrArg xp (by omega)
theorem by_v (HY : jy_H n m yp cc P) {b c i : Nat} (hb : b < 6) (hc : c < 3) (hi : i < 16) {post : Int32 → Prop} (h : post (P (16 * b + i) c)) : wpY_packedAt post (nI n, fp, nI m, yv, yp, yt, d, cc, cl, ch) (nI b) (nI c) (nI i) := by
  refine ⟨?_, ?_⟩
  · rw [ax_p]
    exact vp_in_nI (by omega) (by decide)
  · rw [ax_p, nI_clamp (by omega), show 48 * b + 3 * i + c = 3 * (16 * b + i) + c by omega, HY.2.2.2 (16 * b + i) c (by omega) hc]
    exact h
theorem bx_start {b c : Nat} {post : Int32 → Prop} (h : post (nI (c * 96 + b * 16))) : wpX_startOf post (nI n, fp, nI m, xv, xp, xt, d, cc, cl, ch) (nI b) (nI c) := by
  show post (nI c * 96 + nI b * 16)
  rw [ax_s]
  exact h
theorem by_bc (hn : n ≤ 96) {post : Int32 → Prop} (h : post (nI (n / 16))) : wpY_blockCount post (nI n, fp, nI m, yv, yp, yt, d, cc, cl, ch) := by
  refine ⟨ax_16, ?_⟩
  rw [ax_d hn]
  exact h
/-- condition j is met by none of the packed values of block b -/
def pu_z (cl ch cc : Nat → Int32) (P : Nat → Nat → Int32) (b j : Nat) : Bool := pu_all (fun i => !pu_met cl ch j (P (16 * b + i) (cc j).toNatClampNeg)) 16 0
theorem jx_met2 (HX : jx_H n m xp cc P) {b c j : Nat} (hb : b < 6) (hc : c < 3) (hj : j < 4) {post : Int32 → Prop} : ∀ e i, i + e = 16 → post (pb_I (!pu_all (fun i => !pu_met cl ch j (P (16 * b + i) c)) e i)) → wX_isMetByPacked_2 post (nI j) (nI (c * 96 + b * 16)) (nI n) fp (nI m) xv xp xt d cc cl ch (e + 1) (nI i) := by
  intro e
  induction e with
  | zero =>
    intro i hi h
    exact br_t (nI_le (a := 16) (by omega) (by omega)) h
  | succ e ih =>
    intro i hi h
    refine br_f (nI_ge (b := 16) (by omega) (by decide)) ⟨bx_i hb hc (by omega), ?_⟩
    rw [bx_v HX hb hc (by omega)]
    refine jx_within hj ?_
    unfold pu_all at h
    cases hq : pu_met cl ch j (P (16 * b + i) c) with
    | false => rw [hq] at h; exact br_t rfl (nm_r (nI_1 i) (ih (i + 1) (by omega) h))
    | true => rw [hq] at h; exact br_f (by decide) h
theorem jx_passed2 (HX : jx_H n m xp cc P) {b : Nat} (hb : b < 6) {post : Int32 → Prop} : ∀ e j, j + e = m → post (pb_I (!pu_all (fun j => !pu_z cl ch cc P b j) e j)) → wX_isPassed_2 post (nI b) (nI n) fp (nI m) xv xp xt d cc cl ch (e + 1) (nI j) := by
  have hm := HX.2.1
  intro e
  induction e with
  | zero =>
    intro j hj h
    exact br_t (nI_le (by omega) (by omega)) h
  | succ e ih =>
    intro j hj h
    obtain ⟨c, hc, ec⟩ := HX.2.2.1 j
    have e2 : (cc j).toNatClampNeg = c := by rw [ec]; exact nI_clamp (by omega)
    refine br_f (nI_ge (by omega) (by omega)) ⟨vp_in_nI (by omega) (by decide), ?_⟩
    rw [nI_clamp (n := j) (by omega), ec]
    refine bx_start ⟨17, jx_met2 HX hb hc (by omega) 16 0 (by omega) ?_⟩
    have hz : pu_z cl ch cc P b j = pu_all (fun i => !pu_met cl ch j (P (16 * b + i) c)) 16 0 := by unfold pu_z; rw [e2]
    unfold pu_all at h
    rw [hz] at h
    cases hq : pu_all (fun i => !pu_met cl ch j (P (16 * b + i) c)) 16 0 with
    | true => rw [hq] at h; exact br_t rfl h
    | false => rw [hq] at h; exact br_f (by decide) (nm_r (nI_1 j) (ih (j + 1) (by omega) h))
theorem jy_passed2 (HY : jy_H n m yp cc P) {b j : Nat} (hb : b < 6) (hj : j < 4) {post : Int32 → Prop} : ∀ e i, i + e = 16 → post (pb_I (pu_all (fun i => !pu_met cl ch j (P (16 * b + i) (cc j).toNatClampNeg)) e i)) → wY_isPassed_2 post (nI b) (nI j) (nI n) fp (nI m) yv yp yt d cc cl ch (e + 1) (nI i) := by
  obtain ⟨c, hc, ec⟩ := HY.2.2.1 j
  have e2 : (cc j).toNatClampNeg = c := by rw [ec]; exact nI_clamp (by omega)
  intro e
  induction e with
  | zero =>
    intro i hi h
    exact br_t (nI_le (a := 16) (by omega) (by omega)) h
  | succ e ih =>
    intro i hi h
    refine br_f (nI_ge (b := 16) (by omega) (by decide)) ⟨vp_in_nI hj (by decide), ?_⟩
    rw [nI_clamp (n := j) (by omega), ec]
    refine by_v HY hb hc (by omega) (jy_met hj ?_)
    unfold pu_all at h
    rw [e2] at h
    cases hq : pu_met cl ch j (P (16 * b + i) c) with
    | false => rw [hq] at h; rw [e2] at ih; exact br_t rfl (nm_r (nI_1 i) (ih (i + 1) (by omega) h))
    | true => rw [hq] at h; exact br_f (by decide) h
theorem jy_isPassed (HY : jy_H n m yp cc P) {b j : Nat} (hb : b < 6) (hj : j < 4) {post : Int32 → Prop} (h : post (pb_I (pu_z cl ch cc P b j))) : wpY_isPassed post (nI n, fp, nI m, yv, yp, yt, d, cc, cl, ch) (nI b) (nI j) :=
  ⟨17, jy_passed2 HY hb hj 16 0 (by omega) h⟩
theorem jy_passed17 (HY : jy_H n m yp cc P) {b : Nat} (hb : b < 6) {post : Int32 → Prop} {J : Int32 → Int32 → Prop} {a : Int32} : ∀ e j f, j + e = m → J (a + pb_I (f || !pu_all (fun j => !pu_z cl ch cc P b j) e j)) (nI (b + 1)) → wY_passed_17 post J a (nI b) (nI n) fp (nI m) yv yp yt d cc cl ch (e + 1) (pb_I f) (nI j) := by
  have hm := HY.2.1
  intro e
  induction e with
  | zero =>
    intro j f hj h
    refine br_t (nI_le (by omega) (by omega)) ?_
    cases f with
    | false => rw [show a + pb_I (false || !pu_all (fun j => !pu_z cl ch cc P b j) 0 j) = a from Int32.add_zero a] at h; exact br_t rfl (nm_r (nI_1 b) h)
    | true => exact br_f (by decide) (nm_e (nm_r (nI_1 b) h))
  | succ e ih =>
    intro j f hj h
    refine br_f (nI_ge (by omega) (by omega)) ?_
    cases f with
    | true => exact br_f (by decide) (nm_r (nI_1 j) (ih (j + 1) true (by omega) h))
    | false =>
      refine br_t rfl (jy_isPassed HY hb (by omega) ?_)
      rw [pu_all] at h
      cases hq : pu_z cl ch cc P b j with
      | true => rw [hq] at h; exact br_f (by decide) (nm_r (nI_1 j) (ih (j + 1) true (by omega) h))
      | false => rw [hq] at h; exact br_t rfl (nm_r (nI_1 j) (ih (j + 1) false (by omega) h))
theorem jb_passed (HX : jx_H n m xp cc P) (HY : jy_H n m yp cc P) : ∀ e b, b + e = n / 16 → ∀ a : Int32, ∃ r : Int32, (∀ post : Int32 → Prop, post r → wX_passed_4 post (nI n) fp (nI m) xv xp xt d cc cl ch (e + 1) a (nI b)) ∧ (∀ post : Int32 → Prop, post r → wY_passed_4 post (nI n) fp (nI m) yv yp yt d cc cl ch (e + 1) a (nI b)) := by
  have hn := HX.1
  intro e
  induction e with
  | zero =>
    intro b hb a
    have h : nI (n / 16) ≤ nI b := nI_le (by omega) (by omega)
    refine ⟨a, fun _ hp => ⟨ax_16, ?_⟩, fun _ hp => ⟨ax_16, ?_⟩⟩
    · rw [ax_d hn]
      exact br_t h hp
    · rw [ax_d hn]
      exact br_t h hp
  | succ e ih =>
    intro b hb a
    have h : ¬ nI (n / 16) ≤ nI b := nI_ge (by omega) (by omega)
    obtain ⟨r, hX, hY⟩ := ih (b + 1) (by omega) (a + pb_I (!pu_all (fun j => !pu_z cl ch cc P b j) m 0))
    refine ⟨r, fun post hp => ⟨ax_16, ?_⟩, fun post hp => ⟨ax_16, ?_⟩⟩
    rotate_left
    · rw [ax_d hn]
      exact br_f h ⟨m + 1, jy_passed17 HY (by omega) m 0 false (by omega) (hY post hp)⟩
    rw [ax_d hn]
    refine br_f h ⟨m + 1, jx_passed2 HX (by omega) m 0 (by omega) ?_⟩
    have hX := hX post hp
    cases hq : pu_all (fun j => !pu_z cl ch cc P b j) m 0 with
    | true =>
      rw [hq, show a + pb_I (!true) = a from Int32.add_zero a] at hX
      exact br_t rfl (nm_r (nI_1 b) hX)
    | false =>
      rw [hq] at hX
      exact br_f (by decide) (nm_e (nm_r (nI_1 b) hX))
