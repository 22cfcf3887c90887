/-! packBlock / pack, copyRow, dropPatches, compact -/
variable {n m : Nat} {fp : Int32} {xv xp xt yv yp yt d cc cl ch : Nat → Int32} {V P : Nat → Nat → Int32}
theorem st_up {f g h : Nat → Int32} {s t : Nat} (hst : s < t) (e : ∀ j, g j = if s + 1 ≤ j ∧ j < t then h j else upd f s (h s) j) : ∀ j, g j = if s ≤ j ∧ j < t then h j else f j := by
  intro j
  rw [e j]
  by_cases q : j = s
  · subst q
    rw [if_neg (by omega), if_pos (by omega), pk_us]
  · rw [pk_un q]
    by_cases z : s ≤ j ∧ j < t
    · rw [if_pos z, if_pos (by omega)]
    · rw [if_neg z, if_neg (by omega)]
theorem st_0 {f h : Nat → Int32} {s t : Nat} (hst : t ≤ s) : ∀ j, f j = if s ≤ j ∧ j < t then h j else f j := by
  intro j
  rw [if_neg (by omega)]
theorem jx_pk17 {post : SX → Prop} {J : Int32 → (Nat → Int32) → (Nat → Int32) → (Nat → Int32) → (Nat → Int32) → (Nat → Int32) → (Nat → Int32) → (Nat → Int32) → Prop} {x1 x2 f1 f2 f3 : Int32} {s : Nat} (hs : s + 16 ≤ 288) : ∀ e i xp, i + e = 16 → (∀ xp', (∀ j, xp' j = if s + i ≤ j ∧ j < s + 16 then xv j else xp j) → J (x2 + 1) xv xp' xt d cc cl ch) → wX_packBlock_17 post J x1 x2 (nI s) f1 f2 f3 (e + 1) (nI i) xv xp xt d cc cl ch := by
  intro e
  induction e with
  | zero =>
    intro i xp hi h
    exact br_t (nI_le (a := 16) (by omega) (by omega)) (nm_e (h xp (st_0 (by omega))))
  | succ e ih =>
    intro i xp hi h
    have ev : vp_in (nI s + nI i) 288 := by rw [nI_add]; exact vp_in_nI (by omega) (by decide)
    have ec : (nI s + nI i).toNatClampNeg = s + i := by rw [nI_add]; exact nI_clamp (by omega)
    refine br_f (nI_ge (b := 16) (by omega) (by decide)) ⟨ev, ev, nm_r (e' := upd xp (s + i) (xv (s + i))) (by rw [ec]) (nm_r (nI_1 i) (ih (i + 1) _ (by omega) (fun xp' h' => h xp' (st_up (by omega) h'))))⟩
theorem jx_pk2 {post : SX → Prop} {b : Nat} (hb : b < 6) : ∀ e c xp, c + e = 3 → (∀ xp' : Nat → Int32, (∀ r k, r < 96 → k < 3 → xp' (k * 96 + r) = if c ≤ k ∧ 16 * b ≤ r ∧ r < 16 * b + 16 then xv (k * 96 + r) else xp (k * 96 + r)) → post (nI n, fp, nI m, xv, xp', xt, d, cc, cl, ch)) → wX_packBlock_2 post (nI b) (nI n) fp (nI m) (e + 1) (nI c) xv xp xt d cc cl ch := by
  intro e
  induction e with
  | zero =>
    intro c xp hc h
    exact br_t (nI_le (a := 3) (by omega) (by omega)) (h xp (fun r k _ _ => by rw [if_neg (by omega)]))
  | succ e ih =>
    intro c xp hc h
    refine br_f (nI_ge (b := 3) (by omega) (by decide)) (bx_start ⟨17, jx_pk17 (by omega) 16 0 xp (by omega) (fun xp1 h1 => ?_)⟩)
    rw [nI_1]
    refine ih (c + 1) xp1 (by omega) (fun xp' h' => h xp' (fun r k hr hk => ?_))
    rw [h' r k hr hk, h1]
    by_cases z : c ≤ k ∧ 16 * b ≤ r ∧ r < 16 * b + 16
    · rw [if_pos z]
      by_cases y : c = k
      · rw [if_neg (by omega), if_pos (by omega)]
      · rw [if_pos (by omega)]
    · rw [if_neg z, if_neg (by omega), if_neg (by omega)]
theorem jx_pack {post : SX → Prop} {b : Nat} (hb : b < 6) (h : ∀ xp' : Nat → Int32, (∀ r k, r < 96 → k < 3 → xp' (k * 96 + r) = if 16 * b ≤ r ∧ r < 16 * b + 16 then xv (k * 96 + r) else xp (k * 96 + r)) → post (nI n, fp, nI m, xv, xp', xt, d, cc, cl, ch)) : wpX_packBlock post (nI n, fp, nI m, xv, xp, xt, d, cc, cl, ch) (nI b) :=
  ⟨4, jx_pk2 hb 3 0 xp (by omega) (fun xp' h' => h xp' (fun r k hr hk => by
    rw [h' r k hr hk]
    by_cases z : 16 * b ≤ r ∧ r < 16 * b + 16
    · rw [if_pos z, if_pos (by omega)]
    · rw [if_neg z, if_neg (by omega)]))⟩
theorem ax_48 (b : Nat) : (48 * nI b) + 48 = nI (48 * b + 48) := by
  show nI 48 * nI b + nI 48 = _
  rw [pk_mul, nI_add]
theorem jy_pk5 {post : SY → Prop} {b : Nat} (hb : b < 6) : ∀ e i yp yt, i + e = 48 * b + 48 → (∀ yp' yt' : Nat → Int32, (∀ j, yp' j = if i ≤ j ∧ j < 48 * b + 48 then yv j else yp j) → (∀ j, yt' j = if i ≤ j ∧ j < 48 * b + 48 then 0 else yt j) → post (nI n, fp, nI m, yv, yp', yt', d, cc, cl, ch)) → wY_pack_5 post (nI b) (nI n) fp (nI m) (e + 1) (nI i) yv yp yt d cc cl ch := by
  intro e
  induction e with
  | zero =>
    intro i yp yt hi h
    refine ⟨fun _ => h yp yt (st_0 (by omega)) (st_0 (h := fun _ => 0) (by omega)), fun z => ?_⟩
    rw [ax_48] at z
    exact absurd (nI_le (by omega) (by omega)) z
  | succ e ih =>
    intro i yp yt hi h
    refine ⟨fun z => ?_, fun _ => ?_⟩
    · rw [ax_48] at z
      exact absurd z (nI_ge (by omega) (by omega))
    · have ev : vp_in (nI i) 288 := vp_in_nI (by omega) (by decide)
      have ec : (nI i).toNatClampNeg = i := nI_clamp (by omega)
      refine ⟨ev, ev, nm_r (e' := upd yp i (yv i)) (by rw [ec]) ⟨ev, nm_r (e' := upd yt i 0) (by rw [ec, pb_0]) (nm_r (nI_1 i) (ih (i + 1) _ _ (by omega) (fun yp' yt' h1 h2 => h yp' yt' (st_up (by omega) h1) (st_up (h := fun _ => 0) (by omega) h2))))⟩⟩
theorem jy_pack {post : SY → Prop} {b : Nat} (hb : b < 6) (h : ∀ yp' yt' : Nat → Int32, (∀ j, yp' j = if 48 * b ≤ j ∧ j < 48 * b + 48 then yv j else yp j) → (∀ j, yt' j = if 48 * b ≤ j ∧ j < 48 * b + 48 then 0 else yt j) → post (nI n, fp, nI m, yv, yp', yt', d, cc, cl, ch)) : wpY_pack post (nI n, fp, nI m, yv, yp, yt, d, cc, cl, ch) (nI b) :=
  nm_r (e' := nI (48 * b)) (pk_mul 48 b) ⟨49, jy_pk5 hb 48 (48 * b) yp yt (by omega) h⟩
theorem jx_cp2 {post : SX → Prop} {f t : Nat} (hf : f < 96) (ht : t < 96) : ∀ e c xv, c + e = 3 → (∀ xv' : Nat → Int32, (∀ r k, r < 96 → k < 3 → xv' (k * 96 + r) = if c ≤ k ∧ r = t then xv (k * 96 + f) else xv (k * 96 + r)) → post (nI n, fp, nI m, xv', xp, xt, d, cc, cl, ch)) → wX_copyRow_2 post (nI f) (nI t) (nI n) fp (nI m) (e + 1) (nI c) xv xp xt d cc cl ch := by
  intro e
  induction e with
  | zero =>
    intro c xv hc h
    exact br_t (nI_le (a := 3) (by omega) (by omega)) (h xv (fun r k _ _ => by rw [if_neg (by omega)]))
  | succ e ih =>
    intro c xv hc h
    have e1 : ((nI c * 96) + nI t).toNatClampNeg = c * 96 + t := by rw [ax_x]; exact nI_clamp (by omega)
    have e2 : ((nI c * 96) + nI f).toNatClampNeg = c * 96 + f := by rw [ax_x]; exact nI_clamp (by omega)
    refine br_f (nI_ge (b := 3) (by omega) (by decide)) ⟨jx_i hf (by omega), jx_i ht (by omega), nm_r (e' := upd xv (c * 96 + t) (xv (c * 96 + f))) (by rw [e1, e2]) (nm_r (nI_1 c) (ih (c + 1) _ (by omega) (fun xv' h' => h xv' (fun r k hr hk => ?_))))⟩
    rw [h' r k hr hk]
    by_cases z : c ≤ k ∧ r = t
    · rw [if_pos z]
      by_cases y : k = c
      · rw [if_neg (by omega), y, z.2, pk_us]
      · rw [if_pos (by omega), pk_un (by omega)]
    · rw [if_neg z, if_neg (by omega), pk_un (by omega)]
theorem jx_copy {post : SX → Prop} {f t : Nat} (hf : f < 96) (ht : t < 96) (h : ∀ xv' : Nat → Int32, (∀ r k, r < 96 → k < 3 → xv' (k * 96 + r) = if r = t then xv (k * 96 + f) else xv (k * 96 + r)) → post (nI n, fp, nI m, xv', xp, xt, d, cc, cl, ch)) : wpX_copyRow post (nI n, fp, nI m, xv, xp, xt, d, cc, cl, ch) (nI f) (nI t) :=
  ⟨4, jx_cp2 hf ht 3 0 xv (by omega) (fun xv' h' => h xv' (fun r k hr hk => by
    rw [h' r k hr hk]
    by_cases z : r = t
    · rw [if_pos z, if_pos ⟨by omega, z⟩]
    · rw [if_neg z, if_neg (by omega)]))⟩
theorem jy_cp23 {post : Int32 → SY → Prop} {J : Int32 → Int32 → (Nat → Int32) → (Nat → Int32) → (Nat → Int32) → (Nat → Int32) → (Nat → Int32) → (Nat → Int32) → (Nat → Int32) → Prop} {f1 f2 f3 : Int32} {f t : Nat} (hf : f < 96) (ht : t < 96) : ∀ e c yv, c + e = 3 → (∀ yv' : Nat → Int32, (∀ r k, r < 96 → k < 3 → yv' (3 * r + k) = if c ≤ k ∧ r = t then yv (3 * f + k) else yv (3 * r + k)) → J (nI (t + 1)) (nI (f + 1)) yv' yp yt d cc cl ch) → wY_compact_23 post J (nI t) (nI f) f1 f2 f3 (e + 1) (nI c) yv yp yt d cc cl ch := by
  intro e
  induction e with
  | zero =>
    intro c yv hc h
    exact br_t (nI_le (a := 3) (by omega) (by omega)) (nm_r (nI_1 t) (nm_r (nI_1 f) (h yv (fun r k _ _ => by rw [if_neg (by omega)]))))
  | succ e ih =>
    intro c yv hc h
    have e1 : ((3 * nI t) + nI c).toNatClampNeg = 3 * t + c := by rw [ax_y]; exact nI_clamp (by omega)
    have e2 : ((3 * nI f) + nI c).toNatClampNeg = 3 * f + c := by rw [ax_y]; exact nI_clamp (by omega)
    refine br_f (nI_ge (b := 3) (by omega) (by decide)) ⟨jy_i hf (by omega), jy_i ht (by omega), nm_r (e' := upd yv (3 * t + c) (yv (3 * f + c))) (by rw [e1, e2]) (nm_r (nI_1 c) (ih (c + 1) _ (by omega) (fun yv' h' => h yv' (fun r k hr hk => ?_))))⟩
    rw [h' r k hr hk]
    by_cases z : c ≤ k ∧ r = t
    · rw [if_pos z]
      by_cases y : k = c
      · rw [if_neg (by omega), y, z.2, pk_us]
      · rw [if_pos (by omega), pk_un (by omega)]
    · rw [if_neg z, if_neg (by omega), pk_un (by omega)]
theorem jx_drop2 {post : SX → Prop} : ∀ e i xt, i + e = 288 → (∀ xt' : Nat → Int32, (∀ j, xt' j = if i ≤ j ∧ j < 288 then 0 else xt j) → post (nI n, 0, nI m, xv, xp, xt', d, cc, cl, ch)) → wX_dropPatches_2 post (nI n) fp (nI m) (e + 1) (nI i) xv xp xt d cc cl ch := by
  intro e
  induction e with
  | zero =>
    intro i xt hi h
    exact br_t (nI_le (a := 288) (by omega) (by omega)) (h xt (st_0 (h := fun _ => 0) (by omega)))
  | succ e ih =>
    intro i xt hi h
    have ec : (nI i).toNatClampNeg = i := nI_clamp (by omega)
    exact br_f (nI_ge (b := 288) (by omega) (by decide)) ⟨vp_in_nI (by omega) (by decide), nm_r (e' := upd xt i 0) (by rw [ec, pb_0]) (nm_r (nI_1 i) (ih (i + 1) _ (by omega) (fun xt' h' => h xt' (st_up (h := fun _ => 0) (by omega) h'))))⟩
theorem jx_c68 {post : Int32 → SX → Prop} (hn : n ≤ 96) : ∀ e b xp, b + e = n / 16 → (∀ xp' : Nat → Int32, (∀ r k, r < 96 → k < 3 → xp' (k * 96 + r) = if 16 * b ≤ r ∧ r < n / 16 * 16 then xv (k * 96 + r) else xp (k * 96 + r)) → post (nI n) (nI n, fp, nI m, xv, xp', xt, d, cc, cl, ch)) → wX_compact_68 post (e + 1) (nI b) (nI n) fp (nI m) xv xp xt d cc cl ch := by
  intro e
  induction e with
  | zero =>
    intro b xp hb h
    refine ⟨ax_16, ?_⟩
    rw [ax_d hn]
    exact br_t (nI_le (by omega) (by omega)) (h xp (fun r k _ _ => by rw [if_neg (by omega)]))
  | succ e ih =>
    intro b xp hb h
    refine ⟨ax_16, ?_⟩
    rw [ax_d hn]
    refine br_f (nI_ge (by omega) (by omega)) (jx_pack (by omega) (fun xp1 h1 => nm_r (nI_1 b) (ih (b + 1) xp1 (by omega) (fun xp' h' => h xp' (fun r k hr hk => ?_)))))
    rw [h' r k hr hk, h1 r k hr hk]
    by_cases z : 16 * b ≤ r ∧ r < n / 16 * 16
    · rw [if_pos z]
      by_cases y : r < 16 * b + 16
      · rw [if_neg (by omega), if_pos (by omega)]
      · rw [if_pos (by omega)]
    · rw [if_neg z, if_neg (by omega), if_neg (by omega)]
theorem jy_c96 {post : Int32 → SY → Prop} (hn : n ≤ 96) : ∀ e b yp yt, b + e = n / 16 → (∀ yp' yt' : Nat → Int32, (∀ j, yp' j = if 48 * b ≤ j ∧ j < n / 16 * 48 then yv j else yp j) → (∀ j, yt' j = if 48 * b ≤ j ∧ j < n / 16 * 48 then 0 else yt j) → post (nI n) (nI n, fp, nI m, yv, yp', yt', d, cc, cl, ch)) → wY_compact_96 post (e + 1) (nI b) (nI n) fp (nI m) yv yp yt d cc cl ch := by
  intro e
  induction e with
  | zero =>
    intro b yp yt hb h
    refine ⟨ax_16, ?_⟩
    rw [ax_d hn]
    exact br_t (nI_le (by omega) (by omega)) (h yp yt (st_0 (by omega)) (st_0 (h := fun _ => 0) (by omega)))
  | succ e ih =>
    intro b yp yt hb h
    refine ⟨ax_16, ?_⟩
    rw [ax_d hn]
    refine br_f (nI_ge (by omega) (by omega)) (jy_pack (by omega) (fun yp1 yt1 h1 h2 => nm_r (nI_1 b) (ih (b + 1) yp1 yt1 (by omega) (fun yp' yt' h1' h2' => h yp' yt' (fun j => ?_) (fun j => ?_)))))
    · rw [h1' j, h1 j]
      by_cases z : 48 * b ≤ j ∧ j < n / 16 * 48
      · rw [if_pos z]
        by_cases y : j < 48 * b + 48
        · rw [if_neg (by omega), if_pos (by omega)]
        · rw [if_pos (by omega)]
      · rw [if_neg z, if_neg (by omega), if_neg (by omega)]
    · rw [h2' j, h2 j]
      by_cases z : 48 * b ≤ j ∧ j < n / 16 * 48
      · rw [if_pos z]
        by_cases y : j < 48 * b + 48
        · rw [if_neg (by omega), if_pos (by omega)]
        · rw [if_pos (by omega)]
      · rw [if_neg z, if_neg (by omega), if_neg (by omega)]
/-- the deleted marks, wiped -/
def st_w (d : Nat → Int32) : Nat → Int32 := fun j => if j < 96 then 0 else d j
theorem st_we {d d' : Nat → Int32} (h : ∀ j, d' j = if 0 ≤ j ∧ j < 96 then 0 else d j) : d' = st_w d := by
  funext j
  rw [h j]
  unfold st_w
  by_cases z : j < 96
  · rw [if_pos z, if_pos (by omega)]
  · rw [if_neg z, if_neg (by omega)]
theorem jx_c43 {post : Int32 → SX → Prop} : ∀ e i d, i + e = 96 → (∀ d' : Nat → Int32, (∀ j, d' j = if i ≤ j ∧ j < 96 then 0 else d j) → wpX_dropPatches (fun u => match u with | (f_rowCount, f_patchCount, f_conditionCount, a_values, a_packed, a_patched, a_deleted, a_conditionColumn, a_conditionLow, a_conditionHigh) => (∃ n68 : Nat, wX_compact_68 post n68 0 f_rowCount f_patchCount f_conditionCount a_values a_packed a_patched a_deleted a_conditionColumn a_conditionLow a_conditionHigh)) (nI n, fp, nI m, xv, xp, xt, d', cc, cl, ch)) → wX_compact_43 post (nI n) fp (nI m) (e + 1) (nI i) xv xp xt d cc cl ch := by
  intro e
  induction e with
  | zero =>
    intro i d hi h
    exact br_t (nI_le (a := 96) (by omega) (by omega)) (h d (st_0 (h := fun _ => 0) (by omega)))
  | succ e ih =>
    intro i d hi h
    have ec : (nI i).toNatClampNeg = i := nI_clamp (by omega)
    exact br_f (nI_ge (b := 96) (by omega) (by decide)) ⟨vp_in_nI (by omega) (by decide), nm_r (e' := upd d i 0) (by rw [ec, pb_0]) (nm_r (nI_1 i) (ih (i + 1) _ (by omega) (fun d' h' => h d' (st_up (h := fun _ => 0) (by omega) h'))))⟩
theorem jy_c75 {post : Int32 → SY → Prop} : ∀ e i d, i + e = 96 → (∀ d' : Nat → Int32, (∀ j, d' j = if i ≤ j ∧ j < 96 then 0 else d j) → ∃ n96 : Nat, wY_compact_96 post n96 0 (nI n) fp (nI m) yv yp yt d' cc cl ch) → wY_compact_75 post (nI n) fp (nI m) (e + 1) (nI i) yv yp yt d cc cl ch := by
  intro e
  induction e with
  | zero =>
    intro i d hi h
    exact br_t (nI_le (a := 96) (by omega) (by omega)) (h d (st_0 (h := fun _ => 0) (by omega)))
  | succ e ih =>
    intro i d hi h
    have ec : (nI i).toNatClampNeg = i := nI_clamp (by omega)
    exact br_f (nI_ge (b := 96) (by omega) (by decide)) ⟨vp_in_nI (by omega) (by decide), nm_r (e' := upd d i 0) (by rw [ec, pb_0]) (nm_r (nI_1 i) (ih (i + 1) _ (by omega) (fun d' h' => h d' (st_up (h := fun _ => 0) (by omega) h'))))⟩
/-- what compact does to the picture: rows i .. i + e - 1 that are not deleted move to k, k + 1, .. -/
def cp_V (d : Nat → Int32) : Nat → Nat → Nat → (Nat → Nat → Int32) → (Nat → Nat → Int32) × Nat
  | 0, _, k, V => (V, k)
  | e + 1, i, k, V => if d i = 0 then cp_V d e (i + 1) (k + 1) (fun r c => if r = k then V i c else V r c) else cp_V d e (i + 1) k V
theorem cp_le (d : Nat → Int32) : ∀ e i k V, k ≤ i → (cp_V d e i k V).2 ≤ i + e := by
  intro e
  induction e with
  | zero => intro i k V h; exact h
  | succ e ih =>
    intro i k V h
    unfold cp_V
    split
    · have := ih (i + 1) (k + 1) (fun r c => if r = k then V i c else V r c) (by omega)
      omega
    · have := ih (i + 1) k V (by omega)
      omega
theorem jx_c4 {post : Int32 → SX → Prop} (hn : n ≤ 96) : ∀ e i k xv V, i + e = n → k ≤ i → (∀ r c, r < 96 → c < 3 → xv (c * 96 + r) = V r c) → (∀ xv' : Nat → Int32, (∀ r c, r < 96 → c < 3 → xv' (c * 96 + r) = (cp_V d e i k V).1 r c) → ∃ n43 : Nat, wX_compact_43 post (nI (cp_V d e i k V).2) fp (nI m) n43 0 xv' xp xt d cc cl ch) → wX_compact_4 post (e + 1) (nI k) (nI i) (nI n) fp (nI m) xv xp xt d cc cl ch := by
  intro e
  induction e with
  | zero =>
    intro i k xv V hi hk hV h
    exact br_t (nI_le (by omega) (by omega)) (h xv hV)
  | succ e ih =>
    intro i k xv V hi hk hV h
    refine br_f (nI_ge (by omega) (by omega)) ⟨vp_in_nI (by omega) (by decide), ?_⟩
    rw [nI_clamp (by omega)]
    unfold cp_V at h
    by_cases q : d i = 0
    · simp only [if_pos q] at h
      refine br_t q (jx_copy (by omega) (by omega) (fun xv1 h1 => nm_r (nI_1 k) (nm_r (nI_1 i) (ih (i + 1) (k + 1) xv1 _ (by omega) (by omega) (fun r c hr hc => ?_) h))))
      rw [h1 r c hr hc]
      by_cases z : r = k
      · rw [if_pos z, if_pos z, hV i c (by omega) hc]
      · rw [if_neg z, if_neg z, hV r c hr hc]
    · simp only [if_neg q] at h
      exact br_f q (nm_r (nI_1 i) (ih (i + 1) k xv V (by omega) (by omega) hV h))
theorem jy_c4 {post : Int32 → SY → Prop} (hn : n ≤ 96) : ∀ e i k yv V, i + e = n → k ≤ i → (∀ r c, r < 96 → c < 3 → yv (3 * r + c) = V r c) → (∀ yv' : Nat → Int32, (∀ r c, r < 96 → c < 3 → yv' (3 * r + c) = (cp_V d e i k V).1 r c) → ∃ n75 : Nat, wY_compact_75 post (nI (cp_V d e i k V).2) 0 (nI m) n75 0 yv' yp yt d cc cl ch) → wY_compact_4 post (nI n) fp (nI m) (e + 1) (nI k) (nI i) yv yp yt d cc cl ch := by
  intro e
  induction e with
  | zero =>
    intro i k yv V hi hk hV h
    exact br_t (nI_le (by omega) (by omega)) (h yv hV)
  | succ e ih =>
    intro i k yv V hi hk hV h
    refine br_f (nI_ge (by omega) (by omega)) ⟨vp_in_nI (by omega) (by decide), ?_⟩
    rw [nI_clamp (by omega)]
    unfold cp_V at h
    by_cases q : d i = 0
    · simp only [if_pos q] at h
      refine br_t q ⟨4, jy_cp23 (by omega) (by omega) 3 0 yv (by omega) (fun yv1 h1 => ih (i + 1) (k + 1) yv1 _ (by omega) (by omega) (fun r c hr hc => ?_) h)⟩
      rw [h1 r c hr hc]
      by_cases z : r = k
      · rw [if_pos ⟨by omega, z⟩, if_pos z, hV i c (by omega) hc]
      · rw [if_neg (by omega), if_neg z, hV r c hr hc]
    · simp only [if_neg q] at h
      exact br_f q (nm_r (nI_1 i) (ih (i + 1) k yv V (by omega) (by omega) hV h))
theorem jx_compact {post : Int32 → SX → Prop} (hn : n ≤ 96) (hV : ∀ r c, r < 96 → c < 3 → xv (c * 96 + r) = V r c) {k : Nat} (hk : k = (cp_V d n 0 0 V).2) (h : ∀ xv' xp' xt' : Nat → Int32, (∀ r c, r < 96 → c < 3 → xv' (c * 96 + r) = (cp_V d n 0 0 V).1 r c) → (∀ r c, r < 96 → c < 3 → xp' (c * 96 + r) = if r < k / 16 * 16 then xv' (c * 96 + r) else xp (c * 96 + r)) → (∀ j, j < 288 → xt' j = 0) → post (nI k) (nI k, 0, nI m, xv', xp', xt', st_w d, cc, cl, ch)) : wpX_compact post (nI n, fp, nI m, xv, xp, xt, d, cc, cl, ch) := by
  have hkn : k ≤ 96 := by
    have := cp_le d n 0 0 V (Nat.le_refl _)
    omega
  refine ⟨n + 1, jx_c4 hn n 0 0 xv V (by omega) (Nat.le_refl _) hV (fun xv' h1 => ?_)⟩
  rw [← hk]
  refine ⟨97, jx_c43 96 0 d (by omega) (fun d' hd => ?_)⟩
  rw [st_we hd]
  refine ⟨289, jx_drop2 288 0 xt (by omega) (fun xt' h2 => ?_)⟩
  refine ⟨k / 16 + 1, jx_c68 hkn (k / 16) 0 xp (by omega) (fun xp' h3 => h xv' xp' xt' h1 (fun r c hr hc => ?_) (fun j hj => ?_))⟩
  · rw [h3 r c hr hc]
    by_cases z : r < k / 16 * 16
    · rw [if_pos z, if_pos (by omega)]
    · rw [if_neg z, if_neg (by omega)]
  · rw [h2 j, if_pos (by omega)]
theorem jy_compact {post : Int32 → SY → Prop} (hn : n ≤ 96) (hV : ∀ r c, r < 96 → c < 3 → yv (3 * r + c) = V r c) {k : Nat} (hk : k = (cp_V d n 0 0 V).2) (h : ∀ yv' yp' yt' : Nat → Int32, (∀ r c, r < 96 → c < 3 → yv' (3 * r + c) = (cp_V d n 0 0 V).1 r c) → (∀ r c, r < 96 → c < 3 → yp' (3 * r + c) = if r < k / 16 * 16 then yv' (3 * r + c) else yp (3 * r + c)) → (∀ j, j < k / 16 * 48 → yt' j = 0) → post (nI k) (nI k, 0, nI m, yv', yp', yt', st_w d, cc, cl, ch)) : wpY_compact post (nI n, fp, nI m, yv, yp, yt, d, cc, cl, ch) := by
  have hkn : k ≤ 96 := by
    have := cp_le d n 0 0 V (Nat.le_refl _)
    omega
  refine ⟨n + 1, jy_c4 hn n 0 0 yv V (by omega) (Nat.le_refl _) hV (fun yv' h1 => ?_)⟩
  rw [← hk]
  refine ⟨97, jy_c75 96 0 d (by omega) (fun d' hd => ?_)⟩
  rw [st_we hd]
  refine ⟨k / 16 + 1, jy_c96 hkn (k / 16) 0 yp yt (by omega) (fun yp' yt' h3 h4 => h yv' yp' yt' h1 (fun r c hr hc => ?_) (fun j hj => ?_))⟩
  · rw [h3]
    by_cases z : r < k / 16 * 16
    · rw [if_pos z, if_pos (by omega)]
    · rw [if_neg z, if_neg (by omega)]
  · rw [h4 j, if_pos (by omega)]
