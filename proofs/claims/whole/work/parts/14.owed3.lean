/-! the owed statements: append and change -/
theorem rl_app {n p m : Nat} {xv xp xt yv yp yt d cc : Nat → Int32} (C : rl_C n p m xv xp xt yv yp yt d cc) (hn : n < 96) (v1 v2 v3 : Int32) : ∀ r c, r < 96 → c < 3 → upd (upd (upd xv n v1) (96 + n) v2) (192 + n) v3 (c * 96 + r) = upd (upd (upd yv (3 * n) v1) (3 * n + 1) v2) (3 * n + 2) v3 (3 * r + c) := by
  have h6 : ∀ r c, True → r < 96 → c < 3 → xv (c * 96 + r) = yv (3 * r + c) := fun r c _ => C.2.2.2.2.2.1 r c
  have a1 := rl_set h6 hn (c0 := 0) (i := n) (j := 3 * n) (by decide) (by omega) (by omega) v1
  have a2 := rl_set a1 hn (c0 := 1) (i := 96 + n) (j := 3 * n + 1) (by decide) (by omega) (by omega) v2
  have a3 := rl_set a2 hn (c0 := 2) (i := 192 + n) (j := 3 * n + 2) (by decide) (by omega) (by omega) v3
  exact fun r c => a3 r c trivial
theorem i_vc_append {k : Nat} {u : SX} {v : SY} (I : i_Rel k u v) (hk : k + 4 ≤ 2048) (v1 : Int32) (v2 : Int32) (v3 : Int32) : wpX_append (fun r u' => wpY_append (fun r' v' => r' = r ∧ i_Rel (k + 4) u' v') v v1 v2 v3) u v1 v2 v3 := by
  obtain ⟨n, p, m, xv, xp, xt, yv, yp, yt, d, cc, cl, ch, rfl, rfl, C⟩ := I
  have C0 := C
  obtain ⟨h1, h2, h3, h4, h5, h6, h7, h8, h9⟩ := C
  by_cases hq : n < 96
  · have vv := rl_app C0 hq v1 v2 v3
    have i1 : vp_in (nI n) 288 := vp_in_nI (by omega) (by decide)
    have e2 : 96 + nI n = nI (96 + n) := nI_add 96 n
    have e3 : 192 + nI n = nI (192 + n) := nI_add 192 n
    have i2 : vp_in (96 + nI n) 288 := by rw [e2]; exact vp_in_nI (by omega) (by decide)
    have i3 : vp_in (192 + nI n) 288 := by rw [e3]; exact vp_in_nI (by omega) (by decide)
    have f1 : 3 * nI n = nI (3 * n) := pk_mul 3 n
    have f2 : 3 * nI n + 1 = nI (3 * n + 1) := by rw [f1]; exact nI_add (3 * n) 1
    have f3 : 3 * nI n + 2 = nI (3 * n + 2) := by rw [f1]; exact nI_add (3 * n) 2
    have j1 : vp_in (3 * nI n) 288 := by rw [f1]; exact vp_in_nI (by omega) (by decide)
    have j2 : vp_in (3 * nI n + 1) 288 := by rw [f2]; exact vp_in_nI (by omega) (by decide)
    have j3 : vp_in (3 * nI n + 2) 288 := by rw [f3]; exact vp_in_nI (by omega) (by decide)
    have j4 : vp_in (nI n) 96 := vp_in_nI (by omega) (by decide)
    have hne : ¬ nI n = 96 := fun z => by have := (nI_eq (b := 96) (by omega) (by decide)).mp z; omega
    have eg : upd d (nI n).toNatClampNeg (vp_nar .boolean 0) = d := by rw [nI_clamp (by omega), pb_0]; exact rl_same (h5 n (Nat.le_refl _))
    refine br_t (nI_lt (b := 96) hq (by decide)) ⟨i1, nm_r (e' := upd xv n v1) (by rw [nI_clamp (by omega)]) ⟨i2, nm_r (e' := upd (upd xv n v1) (96 + n) v2) (by rw [e2, nI_clamp (by omega)]) ⟨i3, nm_r (e' := upd (upd (upd xv n v1) (96 + n) v2) (192 + n) v3) (by rw [e3, nI_clamp (by omega)]) (nm_r (nI_1 n) ⟨ax_16, ?_⟩)⟩⟩⟩
    have toY : ∀ post : Int32 → SY → Prop, (((nI (n + 1) - nI (n + 1) / 16 * 16) = 0 → (¬ (16 : Int32) = 0 ∧ (wpY_pack (fun u => match u with | (f_count, f_patchCount, f_conditions, a_values, a_packed, a_patched, a_gone, a_columns, a_lows, a_highs) => (post (f_count - 1) (f_count, f_patchCount, f_conditions, a_values, a_packed, a_patched, a_gone, a_columns, a_lows, a_highs))) (nI (n + 1), nI p, nI m, upd (upd (upd yv (3 * n) v1) (3 * n + 1) v2) (3 * n + 2) v3, yp, yt, d, cc, cl, ch) ((nI (n + 1) / 16) - 1)))) ∧ (¬ (nI (n + 1) - nI (n + 1) / 16 * 16) = 0 → (post (nI (n + 1) - 1) (nI (n + 1), nI p, nI m, upd (upd (upd yv (3 * n) v1) (3 * n + 1) v2) (3 * n + 2) v3, yp, yt, d, cc, cl, ch)))) → wpY_append post (nI n, nI p, nI m, yv, yp, yt, d, cc, cl, ch) v1 v2 v3 := by
      intro post h
      exact br_f hne ⟨j1, nm_r (e' := upd yv (3 * n) v1) (by rw [f1, nI_clamp (by omega)]) ⟨j2, nm_r (e' := upd (upd yv (3 * n) v1) (3 * n + 1) v2) (by rw [f2, nI_clamp (by omega)]) ⟨j3, nm_r (e' := upd (upd (upd yv (3 * n) v1) (3 * n + 1) v2) (3 * n + 2) v3) (by rw [f3, nI_clamp (by omega)]) ⟨j4, nm_r eg (nm_r (nI_1 n) ⟨ax_16, h⟩)⟩⟩⟩⟩
    by_cases z : (n + 1) % 16 = 0
    · have zr : nI (n + 1) - nI (n + 1) / 16 * 16 = 0 := by rw [ax_r (by omega), z]; rfl
      have ed : nI n / 16 = nI (n / 16) := ax_d h2
      have ed2 : nI (n + 1) / 16 - 1 = nI (n / 16) := by rw [ax_d (by omega), show (n + 1) / 16 = n / 16 + 1 by omega]; exact nI_pred _
      refine br_t zr ⟨ax_16, ?_⟩
      rw [ed]
      refine jx_pack (by omega) (fun xp' hx => toY _ (br_t zr ⟨ax_16, ?_⟩))
      rw [ed2]
      refine jy_pack (by omega) (fun yp' yt' hy1 hy2 => ⟨nI_pred n, rl_mk ⟨h1, hq, h3, h4, fun r hr => h5 r (by omega), vv, fun r c hr hc => ?_, fun r c hr hc => ?_, fun r c hr hr2 hc => h9 r c (by omega) hr2 hc⟩⟩)
      · rw [hx r c hr hc, hy1]
        by_cases y : 16 * (n / 16) ≤ r ∧ r < 16 * (n / 16) + 16
        · rw [if_pos y, if_pos (by omega)]
          exact vv r c hr hc
        · rw [if_neg y, if_neg (by omega)]
          exact h7 r c hr hc
      · rw [hy2]
        by_cases y : 16 * (n / 16) ≤ r
        · rw [if_pos (by omega)]
          exact h9 r c (by omega) (by omega) hc
        · rw [if_neg (by omega)]
          exact h8 r c (by omega) hc
    · have zr : ¬ nI (n + 1) - nI (n + 1) / 16 * 16 = 0 := by
        rw [ax_r (by omega)]
        exact nI_ne0 (by omega) (by omega)
      refine br_f zr (toY _ (br_f zr ⟨nI_pred n, rl_mk ⟨h1, hq, h3, h4, fun r hr => h5 r (by omega), vv, h7, fun r c hr hc => h8 r c (by omega) hc, fun r c hr hr2 hc => h9 r c (by omega) hr2 hc⟩⟩))
  · have hn96 : n = 96 := by omega
    refine br_f (nI_nlt (b := 96) (by omega) (by omega)) (br_t ?_ ⟨rfl, rl_mk C0⟩)
    rw [hn96]
    rfl
theorem i_vc_change {k : Nat} {u : SX} {v : SY} (I : i_Rel k u v) (hk : k + 4 ≤ 2048) (v1 : Int32) (v2 : Int32) (v3 : Int32) : wpX_change (fun r u' => wpY_change (fun r' v' => r' = r ∧ i_Rel (k + 4) u' v') v v1 v2 v3) u v1 v2 v3 := by
  obtain ⟨n, p, m, xv, xp, xt, yv, yp, yt, d, cc, cl, ch, rfl, rfl, C⟩ := I
  have C0 := C
  obtain ⟨h1, h2, h3, h4, h5, h6, h7, h8, h9⟩ := C
  by_cases hc : ∃ c, c < 3 ∧ v2 = nI c
  · obtain ⟨c, hc, rfl⟩ := hc
    unfold wpX_change
    refine jx_colT hc (br_f (by decide) ?_)
    by_cases hr : ∃ r, r < n ∧ d r = 0 ∧ v1 = nI r
    · obtain ⟨r, hr, hd, rfl⟩ := hr
      have r96 : r < 96 := by omega
      have xi : vp_in (nI (c * 96 + r)) 288 := vp_in_nI (by omega) (by decide)
      have yi : vp_in (nI (3 * r + c)) 288 := vp_in_nI (by omega) (by decide)
      have xc : (nI (c * 96 + r)).toNatClampNeg = c * 96 + r := nI_clamp (by omega)
      have yc : (nI (3 * r + c)).toNatClampNeg = 3 * r + c := nI_clamp (by omega)
      have xe : xv (nI (c * 96 + r)).toNatClampNeg = yv (3 * r + c) := by rw [xc]; exact h6 r c r96 hc
      have er : nI r / 16 = nI (r / 16) := ax_d (by omega)
      have en : nI n / 16 = nI (n / 16) := ax_d h2
      have vset : ∀ r' c', r' < 96 → c' < 3 → upd xv (c * 96 + r) v3 (c' * 96 + r') = upd yv (3 * r + c) v3 (3 * r' + c') := fun r' c' => rl_set (R := fun _ => True) (fun r c _ => h6 r c) r96 hc rfl rfl v3 r' c' trivial
      -- Y's walk down to the four ends
      have toY : ∀ post : Int32 → SY → Prop, ((nI (n / 16) ≤ nI (r / 16) → wY_change_69 post v3 (nI (3 * r + c)) (yv (3 * r + c)) (nI n) (nI p) (nI m) yv yp yt d cc cl ch) ∧ (¬ nI (n / 16) ≤ nI (r / 16) → (((yv (3 * r + c) = v3 → wY_change_69 post v3 (nI (3 * r + c)) (yv (3 * r + c)) (nI n) (nI p) (nI m) yv yp yt d cc cl ch) ∧ (¬ yv (3 * r + c) = v3 → ((yt (3 * r + c) = 0 → wY_change_70 post v3 (nI (3 * r + c)) (yv (3 * r + c)) 1 (nI n) (nI p) (nI m) yv yp yt d cc cl ch) ∧ (¬ yt (3 * r + c) = 0 → wY_change_69 post v3 (nI (3 * r + c)) (yv (3 * r + c)) (nI n) (nI p) (nI m) yv yp yt d cc cl ch))))))) → wpY_change post (nI n, nI p, nI m, yv, yp, yt, d, cc, cl, ch) (nI r) (nI c) v3 := by
        intro post h
        unfold wpY_change
        refine jy_colT hc (br_f (by decide) (jy_livT h2 hr hd (br_f (by decide) (nm_r (ax_y r c) ⟨yi, nm_r (e' := yv (3 * r + c)) (by rw [yc]) ⟨ax_16, ?_⟩⟩))))
        refine by_bc h2 ?_
        rw [er]
        refine br_c h.1 (fun z => br_c (h.2 z).1 (fun y => ⟨yi, ?_⟩))
        rw [yc]
        exact (h.2 z).2 y
      have to69 : ∀ post : Int32 → SY → Prop, post (yv (3 * r + c)) (nI n, nI p, nI m, upd yv (3 * r + c) v3, yp, yt, d, cc, cl, ch) → wY_change_69 post v3 (nI (3 * r + c)) (yv (3 * r + c)) (nI n) (nI p) (nI m) yv yp yt d cc cl ch := by
        intro post h
        exact br_t rfl (br_t rfl ⟨yi, nm_r (e' := upd yv (3 * r + c) v3) (by rw [yc]) h⟩)
      have Cv : rl_C n p m (upd xv (c * 96 + r) v3) xp xt (upd yv (3 * r + c) v3) yp yt d cc := ⟨h1, h2, h3, h4, h5, vset, h7, h8, h9⟩
      refine jx_livT h2 hr hd (br_f (by decide) (nm_r (ax_x c r) ⟨xi, nm_r xe ?_⟩))
      by_cases hs : yv (3 * r + c) = v3
      · refine br_t hs (toY _ ?_)
        have to0 : ∀ post : Int32 → SY → Prop, post (yv (3 * r + c)) (nI n, nI p, nI m, yv, yp, yt, d, cc, cl, ch) → wY_change_69 post v3 (nI (3 * r + c)) (yv (3 * r + c)) (nI n) (nI p) (nI m) yv yp yt d cc cl ch := by
          intro post h
          apply to69
          rw [rl_same hs]
          exact h
        exact br_c (fun _ => to0 _ ⟨rfl, rl_mk C0⟩) (fun _ => br_t hs (to0 _ ⟨rfl, rl_mk C0⟩))
      · refine br_f hs ⟨ax_16, ax_16, ?_⟩
        rw [er, en]
        by_cases hb : n / 16 ≤ r / 16
        · have hb' : nI (n / 16) ≤ nI (r / 16) := nI_le hb (by omega)
          refine br_t hb' (br_t rfl ⟨xi, nm_r (e' := upd xv (c * 96 + r) v3) (by rw [xc]) (toY _ (br_t hb' (to69 _ ⟨rfl, rl_mk Cv⟩)))⟩)
        · have hb' : ¬ nI (n / 16) ≤ nI (r / 16) := nI_ge (by omega) (by omega)
          have ht : xt (c * 96 + r) = yt (3 * r + c) := h8 r c (by omega) hc
          refine br_f hb' (br_f (by decide) ⟨xi, ?_⟩)
          rw [xc, ht]
          by_cases hz : yt (3 * r + c) = 0
          · refine br_t hz ?_
            by_cases hp : p < 20
            · have hp2 : ¬ nI p = 20 := fun z => by have := (nI_eq (b := 20) (by omega) (by decide)).mp z; omega
              have C2 : rl_C n (p + 1) m (upd xv (c * 96 + r) v3) xp (upd xt (c * 96 + r) 1) (upd yv (3 * r + c) v3) yp (upd yt (3 * r + c) 1) d cc := by
                refine ⟨hp, h2, h3, h4, h5, vset, h7, fun r' c' hr' hc' => ?_, fun r' c' hr' hr2 hc' => ?_⟩
                · exact rl_set (R := fun r => r < n / 16 * 16) (fun r c a _ b => h8 r c a b) r96 hc rfl rfl 1 r' c' hr' (by omega) hc'
                · rw [pk_un (by omega)]
                  exact h9 r' c' hr' hr2 hc'
              refine br_t (nI_lt (b := 20) hp (by decide)) ⟨xi, nm_r (e' := upd xt (c * 96 + r) 1) (by rw [pb_1]) (nm_r (nI_1 p) ⟨xi, nm_e (toY _ (br_f hb' (br_f hs (br_t hz ?_))))⟩)⟩
              refine br_f (by decide) (br_f hp2 (br_f (by decide) ⟨yi, nm_r (e' := upd yt (3 * r + c) 1) (by rw [yc, pb_1]) (nm_r (nI_1 p) ⟨yi, nm_r (e' := upd yv (3 * r + c) v3) (by rw [yc]) ⟨rfl, rl_mk C2⟩⟩)⟩))
            · have hp1 : nI p = 20 := by rw [show p = 20 by omega]; rfl
              exact br_f (nI_nlt (b := 20) (by omega) (by omega)) (toY _ (br_f hb' (br_f hs (br_t hz (br_f (by decide) (br_t hp1 ⟨rfl, rl_mk C0⟩))))))
          · exact br_f hz ⟨xi, nm_e (toY _ (br_f hb' (br_f hs (br_f hz (to69 _ ⟨rfl, rl_mk Cv⟩)))))⟩
    · refine jx_livF h2 hr (br_t rfl ?_)
      unfold wpY_change
      exact jy_colT hc (br_f (by decide) (jy_livF h2 hr (br_t rfl ⟨rfl, rl_mk C0⟩)))
  · unfold wpX_change
    refine jx_colF hc (br_t rfl ?_)
    unfold wpY_change
    exact jy_colF hc (br_t rfl ⟨rfl, rl_mk C0⟩)
