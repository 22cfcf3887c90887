/-! the owed statements: those that change nothing -/
theorem i_vc0 : wpX_init (fun u => wpY_init (fun v => i_Rel 0 u v)) :=
  ⟨0, 0, 0, fun _ => 0, fun _ => 0, fun _ => 0, fun _ => 0, fun _ => 0, fun _ => 0, fun _ => 0, fun _ => 0, fun _ => 0, fun _ => 0, rfl, rfl, by decide, by decide, by decide, fun _ => ⟨0, by decide, rfl⟩, fun _ _ => rfl, fun _ _ _ _ => rfl, fun _ _ _ _ => rfl, fun _ _ _ _ => rfl, fun _ _ _ _ _ => rfl⟩
theorem i_vc_rows {k : Nat} {u : SX} {v : SY} (I : i_Rel k u v) (hk : k + 4 ≤ 2048) : wpX_rows (fun r => wpY_rows (fun r' => r' = r ∧ i_Rel (k + 4) u v) v) u := by
  obtain ⟨n, p, m, xv, xp, xt, yv, yp, yt, d, cc, cl, ch, rfl, rfl, C⟩ := I
  exact ⟨rfl, rl_mk C⟩
theorem i_vc_patches {k : Nat} {u : SX} {v : SY} (I : i_Rel k u v) (hk : k + 4 ≤ 2048) : wpX_patches (fun r => wpY_patches (fun r' => r' = r ∧ i_Rel (k + 4) u v) v) u := by
  obtain ⟨n, p, m, xv, xp, xt, yv, yp, yt, d, cc, cl, ch, rfl, rfl, C⟩ := I
  exact ⟨rfl, rl_mk C⟩
theorem i_vc_blocks {k : Nat} {u : SX} {v : SY} (I : i_Rel k u v) (hk : k + 4 ≤ 2048) : wpX_blocks (fun r => wpY_blocks (fun r' => r' = r ∧ i_Rel (k + 4) u v) v) u := by
  obtain ⟨n, p, m, xv, xp, xt, yv, yp, yt, d, cc, cl, ch, rfl, rfl, C⟩ := I
  exact ⟨ax_16, ax_16, rfl, rl_mk C⟩
theorem i_vc_value {k : Nat} {u : SX} {v : SY} (I : i_Rel k u v) (hk : k + 4 ≤ 2048) (v1 : Int32) (v2 : Int32) : wpX_value (fun r => wpY_value (fun r' => r' = r ∧ i_Rel (k + 4) u v) v v1 v2) u v1 v2 := by
  obtain ⟨n, p, m, xv, xp, xt, yv, yp, yt, d, cc, cl, ch, rfl, rfl, C⟩ := I
  have hn := C.2.1
  by_cases hc : ∃ c, c < 3 ∧ v2 = nI c
  · obtain ⟨c, hc, rfl⟩ := hc
    unfold wpX_value
    refine jx_colT hc (br_f (by decide) ?_)
    by_cases hr : ∃ r, r < n ∧ d r = 0 ∧ v1 = nI r
    · obtain ⟨r, hr, hd, rfl⟩ := hr
      refine jx_livT hn hr hd (br_f (by decide) ⟨jx_i (by omega) hc, ?_⟩)
      rw [jx_v (rl_VX C) (by omega) hc]
      unfold wpY_value
      refine jy_colT hc (br_f (by decide) (jy_livT hn hr hd (br_f (by decide) ⟨jy_i (by omega) hc, ?_⟩)))
      rw [jy_v (rl_VY C) (by omega) hc]
      exact ⟨rfl, rl_mk C⟩
    · refine jx_livF hn hr (br_t rfl ?_)
      unfold wpY_value
      exact jy_colT hc (br_f (by decide) (jy_livF hn hr (br_t rfl ⟨rfl, rl_mk C⟩)))
  · unfold wpX_value
    refine jx_colF hc (br_t rfl ?_)
    unfold wpY_value
    exact jy_colF hc (br_t rfl ⟨rfl, rl_mk C⟩)
theorem i_vc_form {k : Nat} {u : SX} {v : SY} (I : i_Rel k u v) (hk : k + 4 ≤ 2048) (v1 : Int32) (v2 : Int32) : wpX_form (fun r => wpY_form (fun r' => r' = r ∧ i_Rel (k + 4) u v) v v1 v2) u v1 v2 := by
  obtain ⟨n, p, m, xv, xp, xt, yv, yp, yt, d, cc, cl, ch, rfl, rfl, C⟩ := I
  have hn := C.2.1
  by_cases hc : ∃ c, c < 3 ∧ v2 = nI c
  · obtain ⟨c, hc, rfl⟩ := hc
    unfold wpX_form
    refine jx_colT hc (br_f (by decide) ?_)
    by_cases hb : v1 < 0
    · refine br_t hb ?_
      unfold wpY_form
      exact jy_colT hc (br_f (by decide) (br_t hb ⟨rfl, rl_mk C⟩))
    · refine br_f hb ⟨ax_16, ?_⟩
      rw [ax_d hn]
      obtain ⟨b, hb2, rfl⟩ := nI_of hb
      by_cases hq : b < n / 16
      · obtain ⟨o, w, x1, x2, y1, y2⟩ := jb_blk (fp := nI p) (xv := xv) (xp := xp) (xt := xt) (yv := yv) (yp := yp) (yt := yt) (d := d) (cl := cl) (ch := ch) (rl_PX C) (rl_PY C) (b := b) (by omega) hc
        refine br_t (nI_lt hq (by omega)) (bx_start (x1 _ ?_))
        unfold wpY_form
        exact jy_colT hc (br_f (by decide) (br_f hb (by_bc hn (br_f (nI_ge hq (by omega)) (y1 _ ⟨rfl, rl_mk C⟩)))))
      · refine br_f (nI_nlt (by omega) hb2) ?_
        unfold wpY_form
        exact jy_colT hc (br_f (by decide) (br_f hb (by_bc hn (br_t (nI_le (by omega) hb2) ⟨rfl, rl_mk C⟩))))
  · unfold wpX_form
    refine jx_colF hc (br_t rfl ?_)
    unfold wpY_form
    exact jy_colF hc (br_t rfl ⟨rfl, rl_mk C⟩)
theorem i_vc_digits {k : Nat} {u : SX} {v : SY} (I : i_Rel k u v) (hk : k + 4 ≤ 2048) (v1 : Int32) : wpX_digits (fun r => wpY_digits (fun r' => r' = r ∧ i_Rel (k + 4) u v) v v1) u v1 := by
  obtain ⟨n, p, m, xv, xp, xt, yv, yp, yt, d, cc, cl, ch, rfl, rfl, C⟩ := I
  have hn := C.2.1
  by_cases hc : ∃ c, c < 3 ∧ v1 = nI c
  · obtain ⟨c, hc, rfl⟩ := hc
    obtain ⟨r, hX, hY⟩ := jb_digits (fp := nI p) (xv := xv) (xp := xp) (xt := xt) (yv := yv) (yp := yp) (yt := yt) (d := d) (cl := cl) (ch := ch) (rl_PX C) (rl_PY C) hc (n / 16) 0 (by omega) ((nI n - nI n / 16 * 16) * 32)
    unfold wpX_digits
    refine jx_colT hc (br_f (by decide) ⟨ax_16, nm_e ⟨_, hX _ ?_⟩⟩)
    unfold wpY_digits
    exact jy_colT hc (br_f (by decide) ⟨ax_16, nm_r (Int32.mul_comm _ _) ⟨_, hY _ ⟨rfl, rl_mk C⟩⟩⟩)
  · unfold wpX_digits
    refine jx_colF hc (br_t rfl ?_)
    unfold wpY_digits
    exact jy_colF hc (br_t rfl ⟨rfl, rl_mk C⟩)
theorem i_vc_passed {k : Nat} {u : SX} {v : SY} (I : i_Rel k u v) (hk : k + 4 ≤ 2048) : wpX_passed (fun r => wpY_passed (fun r' => r' = r ∧ i_Rel (k + 4) u v) v) u := by
  obtain ⟨n, p, m, xv, xp, xt, yv, yp, yt, d, cc, cl, ch, rfl, rfl, C⟩ := I
  obtain ⟨r, hX, hY⟩ := jb_passed (fp := nI p) (xv := xv) (xp := xp) (xt := xt) (yv := yv) (yp := yp) (yt := yt) (d := d) (cl := cl) (ch := ch) (rl_PX C) (rl_PY C) (n / 16) 0 (by omega) 0
  exact ⟨_, hX _ ⟨_, hY _ ⟨rfl, rl_mk C⟩⟩⟩
theorem i_vc_count {k : Nat} {u : SX} {v : SY} (I : i_Rel k u v) (hk : k + 4 ≤ 2048) : wpX_count (fun r => wpY_count (fun r' => r' = r ∧ i_Rel (k + 4) u v) v) u := by
  obtain ⟨n, p, m, xv, xp, xt, yv, yp, yt, d, cc, cl, ch, rfl, rfl, C⟩ := I
  obtain ⟨r, hX, hY⟩ := jb_count (fp := nI p) (xv := xv) (xp := xp) (xt := xt) (yv := yv) (yp := yp) (yt := yt) (d := d) (cl := cl) (ch := ch) (rl_VX C) (rl_VY C) n 0 (by omega) 0
  exact ⟨_, hX _ ⟨_, hY _ ⟨rfl, rl_mk C⟩⟩⟩
theorem i_vc_chosen {k : Nat} {u : SX} {v : SY} (I : i_Rel k u v) (hk : k + 4 ≤ 2048) (v1 : Int32) : wpX_chosen (fun r => wpY_chosen (fun r' => r' = r ∧ i_Rel (k + 4) u v) v v1) u v1 := by
  obtain ⟨n, p, m, xv, xp, xt, yv, yp, yt, d, cc, cl, ch, rfl, rfl, C⟩ := I
  obtain ⟨r, hX, hY⟩ := jb_chosen (fp := nI p) (xv := xv) (xp := xp) (xt := xt) (yv := yv) (yp := yp) (yt := yt) (d := d) (cl := cl) (ch := ch) (rl_VX C) (rl_VY C) v1 n 0 (by omega) 0
  rw [Int32.sub_zero] at hY
  exact ⟨_, hX _ ⟨_, hY _ ⟨rfl, rl_mk C⟩⟩⟩
theorem i_vc_sum {k : Nat} {u : SX} {v : SY} (I : i_Rel k u v) (hk : k + 4 ≤ 2048) (v1 : Int32) : wpX_sum (fun r => wpY_sum (fun r' => r' = r ∧ i_Rel (k + 4) u v) v v1) u v1 := by
  obtain ⟨n, p, m, xv, xp, xt, yv, yp, yt, d, cc, cl, ch, rfl, rfl, C⟩ := I
  by_cases hc : ∃ c, c < 3 ∧ v1 = nI c
  · obtain ⟨c, hc, rfl⟩ := hc
    obtain ⟨r, hX, hY⟩ := jb_sum (fp := nI p) (xv := xv) (xp := xp) (xt := xt) (yv := yv) (yp := yp) (yt := yt) (d := d) (cl := cl) (ch := ch) (rl_VX C) (rl_VY C) hc n 0 (by omega) 0
    unfold wpX_sum
    refine jx_colT hc (br_f (by decide) ⟨_, hX _ ?_⟩)
    unfold wpY_sum
    exact jy_colT hc (br_f (by decide) ⟨_, hY _ ⟨rfl, rl_mk C⟩⟩)
  · unfold wpX_sum
    refine jx_colF hc (br_t rfl ?_)
    unfold wpY_sum
    exact jy_colF hc (br_t rfl ⟨rfl, rl_mk C⟩)
theorem i_vc_least {k : Nat} {u : SX} {v : SY} (I : i_Rel k u v) (hk : k + 4 ≤ 2048) (v1 : Int32) : wpX_least (fun r => wpY_least (fun r' => r' = r ∧ i_Rel (k + 4) u v) v v1) u v1 := by
  obtain ⟨n, p, m, xv, xp, xt, yv, yp, yt, d, cc, cl, ch, rfl, rfl, C⟩ := I
  by_cases hc : ∃ c, c < 3 ∧ v1 = nI c
  · obtain ⟨c, hc, rfl⟩ := hc
    obtain ⟨r, hX, hY⟩ := jb_least (fp := nI p) (xv := xv) (xp := xp) (xt := xt) (yv := yv) (yp := yp) (yt := yt) (d := d) (cl := cl) (ch := ch) (rl_VX C) (rl_VY C) hc n 0 (by omega) 0 (-1000000003)
    unfold wpX_least
    refine jx_colT hc (br_f (by decide) ⟨_, hX _ ?_⟩)
    unfold wpY_least
    exact jy_colT hc (br_f (by decide) ⟨_, hY _ ⟨rfl, rl_mk C⟩⟩)
  · unfold wpX_least
    refine jx_colF hc (br_t rfl ?_)
    unfold wpY_least
    exact jy_colF hc (br_t rfl ⟨rfl, rl_mk C⟩)
theorem i_vc_ranked {k : Nat} {u : SX} {v : SY} (I : i_Rel k u v) (hk : k + 4 ≤ 2048) (v1 : Int32) (v2 : Int32) : wpX_ranked (fun r => wpY_ranked (fun r' => r' = r ∧ i_Rel (k + 4) u v) v v1 v2) u v1 v2 := by
  obtain ⟨n, p, m, xv, xp, xt, yv, yp, yt, d, cc, cl, ch, rfl, rfl, C⟩ := I
  have hn := C.2.1
  by_cases hc : ∃ c, c < 3 ∧ v1 = nI c
  · obtain ⟨c, hc, rfl⟩ := hc
    unfold wpX_ranked
    refine jx_colT hc (br_f (by decide) ⟨_, jx_ranked13 (rl_VX C) hc (fun a ha => ?_) n 0 (by omega) (fun _ z => absurd z (Nat.not_lt_zero _))⟩)
    unfold wpY_ranked
    exact jy_colT hc (br_f (by decide) ⟨_, jy_ranked13 (rl_VY C) hc (fun b hb => ⟨rk_Ru hn ha hb, rl_mk C⟩) n 0 (by omega) (fun _ z => absurd z (Nat.not_lt_zero _))⟩)
  · unfold wpX_ranked
    refine jx_colF hc (br_t rfl ?_)
    unfold wpY_ranked
    exact jy_colF hc (br_t rfl ⟨rfl, rl_mk C⟩)
theorem i_vc_different {k : Nat} {u : SX} {v : SY} (I : i_Rel k u v) (hk : k + 4 ≤ 2048) (v1 : Int32) : wpX_different (fun r => wpY_different (fun r' => r' = r ∧ i_Rel (k + 4) u v) v v1) u v1 := by
  obtain ⟨n, p, m, xv, xp, xt, yv, yp, yt, d, cc, cl, ch, rfl, rfl, C⟩ := I
  by_cases hc : ∃ c, c < 3 ∧ v1 = nI c
  · obtain ⟨c, hc, rfl⟩ := hc
    obtain ⟨r, hX, hY⟩ := jb_diff (fp := nI p) (xv := xv) (xp := xp) (xt := xt) (yv := yv) (yp := yp) (yt := yt) (d := d) (cl := cl) (ch := ch) (rl_VX C) (rl_VY C) hc n 0 (by omega) 0
    unfold wpX_different
    refine jx_colT hc (br_f (by decide) ⟨_, hX _ ?_⟩)
    unfold wpY_different
    exact jy_colT hc (br_f (by decide) ⟨_, hY _ ⟨rfl, rl_mk C⟩⟩)
  · unfold wpX_different
    refine jx_colF hc (br_t rfl ?_)
    unfold wpY_different
    exact jy_colF hc (br_t rfl ⟨rfl, rl_mk C⟩)
theorem i_vc_commonest {k : Nat} {u : SX} {v : SY} (I : i_Rel k u v) (hk : k + 4 ≤ 2048) (v1 : Int32) : wpX_commonest (fun r => wpY_commonest (fun r' => r' = r ∧ i_Rel (k + 4) u v) v v1) u v1 := by
  obtain ⟨n, p, m, xv, xp, xt, yv, yp, yt, d, cc, cl, ch, rfl, rfl, C⟩ := I
  by_cases hc : ∃ c, c < 3 ∧ v1 = nI c
  · obtain ⟨c, hc, rfl⟩ := hc
    obtain ⟨r, hX, hY⟩ := jb_common (fp := nI p) (xv := xv) (xp := xp) (xt := xt) (yv := yv) (yp := yp) (yt := yt) (d := d) (cl := cl) (ch := ch) (rl_VX C) (rl_VY C) hc rfl n 0 (by omega) none nofun
    unfold wpX_commonest
    refine jx_colT hc (br_f (by decide) ⟨_, hX _ ?_⟩)
    unfold wpY_commonest
    exact jy_colT hc (br_f (by decide) ⟨_, hY _ ⟨rfl, rl_mk C⟩⟩)
  · unfold wpX_commonest
    refine jx_colF hc (br_t rfl ?_)
    unfold wpY_commonest
    exact jy_colF hc (br_t rfl ⟨rfl, rl_mk C⟩)
