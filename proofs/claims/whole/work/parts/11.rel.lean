/-! the relation; columns and live rows by case -/
variable {n m : Nat} {fp : Int32} {xv xp xt yv yp yt d cc cl ch : Nat → Int32} {V P : Nat → Nat → Int32}
/-- both states show one table: counts, marks and conditions alike; values and packed values by row and column; patched places alike in the blocks, and none of X's behind them -/
def rl_C (n p m : Nat) (xv xp xt yv yp yt d cc : Nat → Int32) : Prop :=
  p ≤ 20 ∧ n ≤ 96 ∧ m ≤ 4 ∧ (∀ j, ∃ c, c < 3 ∧ cc j = nI c) ∧ (∀ r, n ≤ r → d r = 0) ∧ (∀ r c, r < 96 → c < 3 → xv (c * 96 + r) = yv (3 * r + c)) ∧ (∀ r c, r < 96 → c < 3 → xp (c * 96 + r) = yp (3 * r + c)) ∧ (∀ r c, r < n / 16 * 16 → c < 3 → xt (c * 96 + r) = yt (3 * r + c)) ∧ (∀ r c, n / 16 * 16 ≤ r → r < 96 → c < 3 → xt (c * 96 + r) = 0)
def i_Rel (_ : Nat) (u : SX) (v : SY) : Prop :=
  ∃ (n p m : Nat) (xv xp xt yv yp yt d cc cl ch : Nat → Int32), u = (nI n, nI p, nI m, xv, xp, xt, d, cc, cl, ch) ∧ v = (nI n, nI p, nI m, yv, yp, yt, d, cc, cl, ch) ∧ rl_C n p m xv xp xt yv yp yt d cc
theorem rl_mk {k p : Nat} (C : rl_C n p m xv xp xt yv yp yt d cc) : i_Rel k (nI n, nI p, nI m, xv, xp, xt, d, cc, cl, ch) (nI n, nI p, nI m, yv, yp, yt, d, cc, cl, ch) :=
  ⟨n, p, m, xv, xp, xt, yv, yp, yt, d, cc, cl, ch, rfl, rfl, C⟩
theorem i_up {k : Nat} {u : SX} {v : SY} (h : i_Rel k u v) : i_Rel (k + 4) u v := h
theorem rl_VX {p : Nat} (C : rl_C n p m xv xp xt yv yp yt d cc) : jx_H n m xv cc (fun r c => yv (3 * r + c)) := ⟨C.2.1, C.2.2.1, C.2.2.2.1, C.2.2.2.2.2.1⟩
theorem rl_VY {p : Nat} (C : rl_C n p m xv xp xt yv yp yt d cc) : jy_H n m yv cc (fun r c => yv (3 * r + c)) := ⟨C.2.1, C.2.2.1, C.2.2.2.1, fun _ _ _ _ => rfl⟩
theorem rl_PX {p : Nat} (C : rl_C n p m xv xp xt yv yp yt d cc) : jx_H n m xp cc (fun r c => yp (3 * r + c)) := ⟨C.2.1, C.2.2.1, C.2.2.2.1, C.2.2.2.2.2.2.1⟩
theorem rl_PY {p : Nat} (C : rl_C n p m xv xp xt yv yp yt d cc) : jy_H n m yp cc (fun r c => yp (3 * r + c)) := ⟨C.2.1, C.2.2.1, C.2.2.2.1, fun _ _ _ _ => rfl⟩
theorem cl_no {x : Int32} {c : Nat} (hc : c < 3) (h : nI c < 0 ∨ 3 ≤ nI c) : False := by
  rcases h with h | h
  · exact nI_pos (by omega) h
  · exact nI_ge (b := 3) hc (by decide) h
theorem jx_colT {post : Int32 → Prop} {c : Nat} (hc : c < 3) (h : post 1) : wpX_isColumn post (nI n, fp, nI m, xv, xp, xt, d, cc, cl, ch) (nI c) :=
  jx_col (fun z => (cl_no (x := 0) hc z).elim) (fun _ _ _ => h)
theorem jx_colF {post : Int32 → Prop} {x : Int32} (hc : ¬ ∃ c, c < 3 ∧ x = nI c) (h : post 0) : wpX_isColumn post (nI n, fp, nI m, xv, xp, xt, d, cc, cl, ch) x :=
  jx_col (fun _ => h) (fun c h1 h2 => absurd ⟨c, h1, h2⟩ hc)
theorem jy_colT {post : Int32 → Prop} {c : Nat} (hc : c < 3) (h : post 1) : wpY_isColumn post (nI n, fp, nI m, yv, yp, yt, d, cc, cl, ch) (nI c) :=
  jy_col (fun z => (cl_no (x := 0) hc z).elim) (fun _ _ _ => h)
theorem jy_colF {post : Int32 → Prop} {x : Int32} (hc : ¬ ∃ c, c < 3 ∧ x = nI c) (h : post 0) : wpY_isColumn post (nI n, fp, nI m, yv, yp, yt, d, cc, cl, ch) x :=
  jy_col (fun _ => h) (fun c h1 h2 => absurd ⟨c, h1, h2⟩ hc)
theorem jx_livT {post : Int32 → Prop} {r : Nat} (hn : n ≤ 96) (hr : r < n) (hd : d r = 0) (h : post 1) : wpX_isLiveRow post (nI n, fp, nI m, xv, xp, xt, d, cc, cl, ch) (nI r) := by
  refine br_f (nI_pos (by omega)) (br_f (nI_ge hr (by omega)) ⟨vp_in_nI (by omega) (by decide), ?_⟩)
  rw [nI_clamp (by omega)]
  exact br_t hd h
theorem jy_livT {post : Int32 → Prop} {r : Nat} (hn : n ≤ 96) (hr : r < n) (hd : d r = 0) (h : post 1) : wpY_isRow post (nI n, fp, nI m, yv, yp, yt, d, cc, cl, ch) (nI r) := by
  refine br_f (nI_pos (by omega)) (br_f (nI_ge hr (by omega)) ⟨vp_in_nI (by omega) (by decide), ?_⟩)
  rw [nI_clamp (by omega)]
  exact br_t hd h
theorem jx_livF {post : Int32 → Prop} {x : Int32} (hn : n ≤ 96) (hr : ¬ ∃ r, r < n ∧ d r = 0 ∧ x = nI r) (h : post 0) : wpX_isLiveRow post (nI n, fp, nI m, xv, xp, xt, d, cc, cl, ch) x := by
  by_cases a : x < 0
  · exact br_t a h
  · obtain ⟨j, hj, rfl⟩ := nI_of a
    refine br_f a (pk_le n j (fun _ => h) (fun q => ⟨vp_in_nI (by omega) (by decide), ?_⟩))
    rw [nI_clamp hj]
    exact br_c (fun z => absurd ⟨j, q, z, rfl⟩ hr) (fun _ => h)
theorem jy_livF {post : Int32 → Prop} {x : Int32} (hn : n ≤ 96) (hr : ¬ ∃ r, r < n ∧ d r = 0 ∧ x = nI r) (h : post 0) : wpY_isRow post (nI n, fp, nI m, yv, yp, yt, d, cc, cl, ch) x := by
  by_cases a : x < 0
  · exact br_t a h
  · obtain ⟨j, hj, rfl⟩ := nI_of a
    refine br_f a (pk_le n j (fun _ => h) (fun q => ⟨vp_in_nI (by omega) (by decide), ?_⟩))
    rw [nI_clamp hj]
    exact br_c (fun z => absurd ⟨j, q, z, rfl⟩ hr) (fun _ => h)
theorem rl_set {f g : Nat → Int32} {R : Nat → Prop} (h : ∀ r c, R r → r < 96 → c < 3 → f (c * 96 + r) = g (3 * r + c)) {r0 c0 i j : Nat} (hr0 : r0 < 96) (hc0 : c0 < 3) (hi : i = c0 * 96 + r0) (hj : j = 3 * r0 + c0) (x : Int32) : ∀ r c, R r → r < 96 → c < 3 → upd f i x (c * 96 + r) = upd g j x (3 * r + c) := by
  intro r c hR hr hc
  by_cases z : r = r0 ∧ c = c0
  · rw [hi, hj, z.1, z.2, pk_us, pk_us]
  · rw [pk_un (by omega), pk_un (by omega)]
    exact h r c hR hr hc
theorem rl_same {f : Nat → Int32} {i : Nat} {x : Int32} (h : f i = x) : upd f i x = f := by
  funext j
  by_cases z : j = i
  · rw [z, pk_us, h]
  · rw [pk_un z]
