/-! the owed statements: those that change the state -/
theorem i_vc_free {k : Nat} {u : SX} {v : SY} (I : i_Rel k u v) (hk : k + 4 ≤ 2048) : wpX_free (fun r u' => wpY_free (fun r' v' => r' = r ∧ i_Rel (k + 4) u' v') v) u := by
  obtain ⟨n, p, m, xv, xp, xt, yv, yp, yt, d, cc, cl, ch, rfl, rfl, C⟩ := I
  obtain ⟨h1, h2, h3, h4, h5, h6, h7, h8, h9⟩ := C
  exact ⟨rfl, rl_mk (m := 0) ⟨h1, h2, by decide, h4, h5, h6, h7, h8, h9⟩⟩
theorem i_vc_condition {k : Nat} {u : SX} {v : SY} (I : i_Rel k u v) (hk : k + 4 ≤ 2048) (v1 : Int32) (v2 : Int32) (v3 : Int32) : wpX_condition (fun r u' => wpY_condition (fun r' v' => r' = r ∧ i_Rel (k + 4) u' v') v v1 v2 v3) u v1 v2 v3 := by
  obtain ⟨n, p, m, xv, xp, xt, yv, yp, yt, d, cc, cl, ch, rfl, rfl, C⟩ := I
  have C0 := C
  obtain ⟨h1, h2, h3, h4, h5, h6, h7, h8, h9⟩ := C
  by_cases hc : ∃ c, c < 3 ∧ v1 = nI c
  · obtain ⟨c, hc, rfl⟩ := hc
    unfold wpX_condition
    refine jx_colT hc (br_f (by decide) ?_)
    by_cases q : m < 4
    · have vi : vp_in (nI m) 4 := vp_in_nI q (by decide)
      refine br_t (nI_lt (b := 4) q (by decide)) ⟨vi, nm_e ⟨vi, nm_e ⟨vi, nm_e (nm_r (nI_1 m) ?_)⟩⟩⟩
      unfold wpY_condition
      refine jy_colT hc (br_f (by decide) (br_f (fun z => ?_) ⟨vi, nm_e ⟨vi, nm_e ⟨vi, nm_e (nm_r (nI_1 m) ⟨rfl, rl_mk ⟨h1, h2, q, fun j => ?_, h5, h6, h7, h8, h9⟩⟩)⟩⟩⟩))
      · have := (nI_eq (b := 4) (by omega) (by decide)).mp z
        omega
      · by_cases z : j = (nI m).toNatClampNeg
        · rw [z, pk_us]
          exact ⟨c, hc, rfl⟩
        · rw [pk_un z]
          exact h4 j
    · refine br_f (nI_nlt (b := 4) (by omega) (by omega)) ?_
      unfold wpY_condition
      refine jy_colT hc (br_f (by decide) (br_t ?_ ⟨rfl, rl_mk C0⟩))
      rw [show m = 4 by omega]
      rfl
  · unfold wpX_condition
    refine jx_colF hc (br_t rfl ?_)
    unfold wpY_condition
    exact jy_colF hc (br_t rfl ⟨rfl, rl_mk C0⟩)
theorem i_vc_delete {k : Nat} {u : SX} {v : SY} (I : i_Rel k u v) (hk : k + 4 ≤ 2048) (v1 : Int32) : wpX_delete (fun r u' => wpY_delete (fun r' v' => r' = r ∧ i_Rel (k + 4) u' v') v v1) u v1 := by
  obtain ⟨n, p, m, xv, xp, xt, yv, yp, yt, d, cc, cl, ch, rfl, rfl, C⟩ := I
  have C0 := C
  obtain ⟨h1, h2, h3, h4, h5, h6, h7, h8, h9⟩ := C
  by_cases hr : ∃ r, r < n ∧ d r = 0 ∧ v1 = nI r
  · obtain ⟨r, hr, hd, rfl⟩ := hr
    have vi : vp_in (nI r) 96 := vp_in_nI (by omega) (by decide)
    have eu : upd d (nI r).toNatClampNeg (vp_nar .boolean 1) = upd d r 1 := by rw [nI_clamp (by omega), pb_1]
    obtain ⟨a, hX, hY⟩ := jb_delete (m := m) (fp := nI p) (xv := xv) (xp := xp) (xt := xt) (yv := yv) (yp := yp) (yt := yt) (d := upd d r 1) (cc := cc) (cl := cl) (ch := ch) h2 n 0 (by omega) 0
    unfold wpX_delete
    refine jx_livT h2 hr hd (br_f (by decide) ⟨vi, nm_r eu ⟨_, hX _ ?_⟩⟩)
    unfold wpY_delete
    refine jy_livT h2 hr hd (br_f (by decide) ⟨vi, nm_r eu ⟨_, hY _ ⟨rfl, rl_mk ⟨h1, h2, h3, h4, fun q hq => ?_, h6, h7, h8, h9⟩⟩⟩⟩)
    rw [pk_un (by omega)]
    exact h5 q hq
  · unfold wpX_delete
    refine jx_livF h2 hr (br_t rfl ?_)
    unfold wpY_delete
    exact jy_livF h2 hr (br_t rfl ⟨rfl, rl_mk C0⟩)
theorem i_vc_compact {k : Nat} {u : SX} {v : SY} (I : i_Rel k u v) (hk : k + 4 ≤ 2048) : wpX_compact (fun r u' => wpY_compact (fun r' v' => r' = r ∧ i_Rel (k + 4) u' v') v) u := by
  obtain ⟨n, p, m, xv, xp, xt, yv, yp, yt, d, cc, cl, ch, rfl, rfl, C⟩ := I
  obtain ⟨h1, h2, h3, h4, h5, h6, h7, h8, h9⟩ := C
  have kn := cp_le d n 0 0 (fun r c => yv (3 * r + c)) (Nat.le_refl _)
  refine jx_compact (V := fun r c => yv (3 * r + c)) h2 h6 rfl (fun xv' xp' xt' x1 x2 x3 => ?_)
  refine jy_compact (V := fun r c => yv (3 * r + c)) h2 (fun _ _ _ _ => rfl) rfl (fun yv' yp' yt' y1 y2 y3 => ⟨rfl, rl_mk (p := 0) ⟨by decide, by omega, h3, h4, fun r hr => ?_, fun r c hr hc => ?_, fun r c hr hc => ?_, fun r c hr hc => ?_, fun r c _ hr hc => ?_⟩⟩)
  · unfold st_w
    by_cases z : r < 96
    · rw [if_pos z]
    · rw [if_neg z, h5 r (by omega)]
  · rw [x1 r c hr hc, y1 r c hr hc]
  · rw [x2 r c hr hc, y2 r c hr hc, x1 r c hr hc, y1 r c hr hc, h7 r c hr hc]
  · rw [x3 _ (by omega), y3 _ (by omega)]
  · exact x3 _ (by omega)
