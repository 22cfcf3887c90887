/-! ranked, different, commonest -/
variable {n m : Nat} {fp : Int32} {xv xp xt yv yp yt d cc cl ch : Nat → Int32} {V P : Nat → Nat → Int32}
/-- X's test of ranked at row r: the place k falls into the stretch of its value -/
def rk_X (C : Nat → Bool) (w : Nat → Int32) (n : Nat) (k : Int32) (r : Nat) : Prop :=
  C r = true ∧ ¬ k < nI (pu_cn (fun q => C q && decide (w r < w q)) n) ∧ ¬ nI (pu_cn (fun q => C q && decide (w r < w q)) n) + nI (pu_cn (fun q => C q && decide (w q = w r)) n) ≤ k
def rk_Y (C : Nat → Bool) (w : Nat → Int32) (n : Nat) (k : Int32) (s : Nat) : Prop :=
  C s = true ∧ nI (pu_cn (fun q => C q && (decide (w s < w q) || (decide (w q = w s) && decide (q < s)))) n) = k
theorem rk_cut (Q : Nat → Bool) (s : Nat) : ∀ n, s ≤ n → pu_cn (fun q => Q q && decide (q < s)) n = pu_cn Q s := by
  have base : ∀ i, i ≤ s → pu_cn (fun q => Q q && decide (q < s)) i = pu_cn Q i := by
    intro i
    induction i with
    | zero => intro _; rfl
    | succ i ih =>
      intro h
      have hi : i < s := h
      show pu_cn _ i + _ = pu_cn _ i + _
      rw [ih (by omega)]
      simp [hi]
  intro n h
  induction n with
  | zero => rw [show s = 0 by omega]
            rfl
  | succ n ih =>
    by_cases hs : s ≤ n
    · rw [pu_cn_f (by simp; intro _; omega), ih hs]
    · rw [base (n + 1) (by omega), show s = n + 1 by omega]
/-- rank = how many above + how many equal ahead -/
theorem rk_split (C : Nat → Bool) (w : Nat → Int32) {n s : Nat} (hs : s < n) : pu_cn (fun q => C q && (decide (w s < w q) || (decide (w q = w s) && decide (q < s)))) n = pu_cn (fun q => C q && decide (w s < w q)) n + pu_cn (fun q => C q && decide (w q = w s)) s := by
  rw [← rk_cut (fun q => C q && decide (w q = w s)) s n (by omega)]
  refine pu_cn_add n (fun i _ => ?_) (fun i _ => ?_)
  · cases C i <;> simp
  · intro ⟨h1, h2⟩
    simp only [Bool.and_eq_true, decide_eq_true_eq] at h1 h2
    rw [h2.1.2] at h1
    exact Int32.lt_irrefl h1.2
theorem rk_num {a b : Nat} {k : Int32} (ha : a ≤ 96) (hb : b ≤ 96) (h1 : ¬ k < nI a) (h2 : ¬ nI a + nI b ≤ k) : ∃ t, k = nI t ∧ a ≤ t ∧ t < a + b ∧ t < 200 := by
  have h0 : ¬ k < 0 := by
    intro h
    apply h1
    exact Int32.lt_of_lt_of_le h (nI_pos' (by omega))
  obtain ⟨t, ht, rfl⟩ := nI_of h0
  rw [nI_ltI ht (by omega)] at h1
  rw [nI_add, nI_leI (by omega) ht] at h2
  exact ⟨t, rfl, by omega, by omega, by omega⟩
theorem rk_YX {C : Nat → Bool} {w : Nat → Int32} {n : Nat} {k : Int32} {s : Nat} (hn : n ≤ 96) (hs : s < n) (h : rk_Y C w n k s) : rk_X C w n k s := by
  obtain ⟨hC, e⟩ := h
  rw [rk_split C w hs] at e
  have l1 : pu_cn (fun q => C q && decide (w q = w s)) s < pu_cn (fun q => C q && decide (w q = w s)) n := pu_cn_lt hs (by simp [hC])
  have l2 := pu_cn_le (fun q => C q && decide (w q = w s)) n
  have l3 := pu_cn_le (fun q => C q && decide (w s < w q)) n
  refine ⟨hC, ?_, ?_⟩
  · rw [← e]
    exact nI_nlt (by omega) (by omega)
  · rw [← e, nI_add]
    exact nI_ge (by omega) (by omega)
theorem rk_XY {C : Nat → Bool} {w : Nat → Int32} {n : Nat} {k : Int32} {r : Nat} (hn : n ≤ 96) (h : rk_X C w n k r) : ∃ s, s < n ∧ w s = w r ∧ rk_Y C w n k s := by
  obtain ⟨hC, h1, h2⟩ := h
  have l2 := pu_cn_le (fun q => C q && decide (w q = w r)) n
  have l3 := pu_cn_le (fun q => C q && decide (w r < w q)) n
  obtain ⟨t, rfl, t1, t2, _⟩ := rk_num (by omega) (by omega) h1 h2
  obtain ⟨s, hs, hP, hc⟩ := pu_cn_hit (P := fun q => C q && decide (w q = w r)) n (t - pu_cn (fun q => C q && decide (w r < w q)) n) (by omega)
  simp only [Bool.and_eq_true, decide_eq_true_eq] at hP
  refine ⟨s, hs, hP.2, hP.1, ?_⟩
  rw [rk_split C w hs, hP.2, hc]
  exact congrArg nI (by omega)
theorem rk_XX {C : Nat → Bool} {w : Nat → Int32} {n : Nat} {k : Int32} {r s : Nat} (hn : n ≤ 96) (hr : rk_X C w n k r) (hs : rk_X C w n k s) : ¬ w r < w s := by
  intro hw
  obtain ⟨_, h1, h2⟩ := hr
  obtain ⟨_, g1, g2⟩ := hs
  have l2 := pu_cn_le (fun q => C q && decide (w q = w r)) n
  have l3 := pu_cn_le (fun q => C q && decide (w r < w q)) n
  have l4 := pu_cn_le (fun q => C q && decide (w q = w s)) n
  have l5 := pu_cn_le (fun q => C q && decide (w s < w q)) n
  obtain ⟨t, rfl, t1, t2, t3⟩ := rk_num (by omega) (by omega) h1 h2
  obtain ⟨t', e, t1', t2', t3'⟩ := rk_num (by omega) (by omega) g1 g2
  rw [nI_eq (by omega) (by omega)] at e
  subst e
  have := pu_cn_add (R := fun q => C q && decide (w s ≤ w q)) (P := fun q => C q && decide (w s < w q)) (Q := fun q => C q && decide (w q = w s)) n (fun i _ => by
    cases C i
    · rfl
    · simp only [Bool.true_and]
      by_cases x1 : w s < w i
      · simp [x1, Int32.le_of_lt x1]
      · by_cases x2 : w i = w s
        · simp [x2]
        · have : ¬ w s ≤ w i := fun h => by
            rcases Int32.lt_or_eq_of_le h with h | h
            · exact x1 h
            · exact x2 h.symm
          simp [this, x1, x2]) (fun i _ ⟨a, b⟩ => by
    simp only [Bool.and_eq_true, decide_eq_true_eq] at a b
    rw [b.2] at a
    exact Int32.lt_irrefl a.2)
  have h5 := pu_cn_sub (P := fun q => C q && decide (w s ≤ w q)) (Q := fun q => C q && decide (w r < w q)) n (fun i _ a => by
    simp only [Bool.and_eq_true, decide_eq_true_eq] at a ⊢
    exact ⟨a.1, Int32.lt_of_lt_of_le hw a.2⟩)
  omega
/-- what ranked answers -/
def rk_R (C : Nat → Bool) (w : Nat → Int32) (n : Nat) (k : Int32) (a : Int32) : Prop :=
  (∃ r, r < n ∧ rk_X C w n k r ∧ a = w r) ∨ ((∀ r, r < n → ¬ rk_X C w n k r) ∧ a = -1000000003)
theorem rk_Ru {C : Nat → Bool} {w : Nat → Int32} {n : Nat} {k a b : Int32} (hn : n ≤ 96) (ha : rk_R C w n k a) (hb : rk_R C w n k b) : b = a := by
  rcases ha with ⟨r, hr, hx, rfl⟩ | ⟨h1, rfl⟩
  · rcases hb with ⟨s, hs, hy, rfl⟩ | ⟨h2, rfl⟩
    · have a1 := rk_XX hn hx hy
      have a2 := rk_XX hn hy hx
      exact Int32.le_antisymm (Int32.not_lt.mp a1) (Int32.not_lt.mp a2)
    · exact absurd hx (h2 r hr)
  · rcases hb with ⟨s, hs, hy, rfl⟩ | ⟨h2, rfl⟩
    · exact absurd hy (h1 s hs)
    · rfl
theorem jx_ranked13 (HX : jx_H n m xv cc V) {c : Nat} (hc : c < 3) {k : Int32} {post : Int32 → Prop} (hp : ∀ a, rk_R (pu_ck m d cc cl ch V) (fun q => V q c) n k a → post a) : ∀ e i, i + e = n → (∀ r, r < i → ¬ rk_X (pu_ck m d cc cl ch V) (fun q => V q c) n k r) → wX_ranked_13 post (nI c) k (nI n) fp (nI m) xv xp xt d cc cl ch (e + 1) (nI i) := by
  have hn := HX.1
  intro e
  induction e with
  | zero =>
    intro i hi h
    have hi : i = n := by omega
    subst hi
    exact br_t (Int32.le_refl _) (hp _ (Or.inr ⟨h, rfl⟩))
  | succ e ih =>
    intro i hi hb
    have h : ¬ nI n ≤ nI i := nI_ge (by omega) (by omega)
    have hr : i < 96 := by omega
    have ih : ¬ rk_X (pu_ck m d cc cl ch V) (fun q => V q c) n k i → _ := fun z => ih (i + 1) (by omega) (fun r hr => by
      by_cases q : r = i
      · rw [q]; exact z
      · exact hb r (by omega))
    refine br_f h (jx_ck HX hr ?_)
    cases hC : (pu_ck m d cc cl ch V) i with
    | false => exact br_t rfl (nm_r (nI_1 i) (ih (fun z => by rw [z.1] at hC; cases hC)))
    | true =>
      refine br_f (by decide) ⟨jx_i hr hc, nm_r (jx_v HX hr hc) (jx_above HX hc (jx_with HX hc hn ?_))⟩
      refine br_c (fun z => nm_r (nI_1 i) (ih (fun q => q.2.1 z))) (fun z => br_c (fun y => nm_r (nI_1 i) (ih (fun q => q.2.2 y))) (fun y => hp _ (Or.inl ⟨i, by omega, ⟨hC, z, y⟩, rfl⟩)))
theorem jy_ranked13 (HY : jy_H n m yv cc V) {c : Nat} (hc : c < 3) {k : Int32} {post : Int32 → Prop} (hp : ∀ a, rk_R (pu_ck m d cc cl ch V) (fun q => V q c) n k a → post a) : ∀ e i, i + e = n → (∀ r, r < i → ¬ rk_Y (pu_ck m d cc cl ch V) (fun q => V q c) n k r) → wY_ranked_13 post (nI c) k (nI n) fp (nI m) yv yp yt d cc cl ch (e + 1) (nI i) := by
  have hn := HY.1
  intro e
  induction e with
  | zero =>
    intro i hi h
    have hi : i = n := by omega
    subst hi
    refine br_t (Int32.le_refl _) (hp _ (Or.inr ⟨fun r hr q => ?_, rfl⟩))
    obtain ⟨s, hs, _, hy⟩ := rk_XY hn q
    exact h s hs hy
  | succ e ih =>
    intro i hi hb
    have h : ¬ nI n ≤ nI i := nI_ge (by omega) (by omega)
    have hr : i < 96 := by omega
    have ih : ¬ rk_Y (pu_ck m d cc cl ch V) (fun q => V q c) n k i → _ := fun z => ih (i + 1) (by omega) (fun r hr => by
      by_cases q : r = i
      · rw [q]; exact z
      · exact hb r (by omega))
    refine br_f h (jy_ck HY (by omega) ?_)
    cases hC : (pu_ck m d cc cl ch V) i with
    | false => exact br_t rfl (nm_r (nI_1 i) (ih (fun z => by rw [z.1] at hC; cases hC)))
    | true =>
      refine br_f (by decide) (jy_rank HY hc hr ?_)
      refine br_c (fun z => ⟨jy_i hr hc, ?_⟩) (fun z => nm_r (nI_1 i) (ih (fun q => z q.2)))
      rw [jy_v HY hr hc]
      exact hp _ (Or.inl ⟨i, by omega, rk_YX hn (by omega) ⟨hC, z⟩, rfl⟩)
theorem pu_all_iff (f : Nat → Bool) : ∀ e j, pu_all f e j = true ↔ ∀ i, j ≤ i → i < j + e → f i = true
  | 0, j => ⟨fun _ i h1 h2 => by omega, fun _ => rfl⟩
  | e + 1, j => by
    have ih := pu_all_iff f e (j + 1)
    unfold pu_all
    rw [Bool.and_eq_true, ih]
    constructor
    · intro ⟨h1, h2⟩ i a b
      by_cases q : i = j
      · rw [q]; exact h1
      · exact h2 i (by omega) (by omega)
    · intro h
      exact ⟨h j (by omega) (by omega), fun i a b => h i (by omega) (by omega)⟩
theorem jy_diff33 (HY : jy_H n m yv cc V) {c : Nat} (hc : c < 3) {s : Nat} (hs : s < n) {a : Int32} {post : Int32 → Prop} {J : Int32 → Int32 → Prop} : ∀ e q b, q + e = s → J (a + pb_I (b && pu_all (fun q => !((pu_ck m d cc cl ch V) q && decide (V q c = V s c))) e q)) (nI (s + 1)) → wY_different_33 post J (nI c) a (nI s) (nI n) fp (nI m) yv yp yt d cc cl ch (e + 1) (pb_I b) (nI q) := by
  have hn := HY.1
  have h90 : ∀ b, J (a + pb_I b) (nI (s + 1)) → wY_different_90 post J (nI c) a (nI s) (pb_I b) (nI n) fp (nI m) yv yp yt d cc cl ch := by
    intro b h
    cases b with
    | false => rw [show a + pb_I false = a from Int32.add_zero a] at h; exact br_t rfl (nm_r (nI_1 s) h)
    | true => exact br_f (by decide) (nm_e (nm_r (nI_1 s) h))
  intro e
  induction e with
  | zero =>
    intro q b hq h
    rw [pu_all, Bool.and_true] at h
    exact br_t (nI_le (by omega) (by omega)) (h90 b h)
  | succ e ih =>
    intro q b hq h
    refine br_f (nI_ge (by omega) (by omega)) ?_
    cases b with
    | false => rw [Bool.false_and] at h; exact br_t rfl (h90 false h)
    | true =>
      unfold pu_all at h
      rw [Bool.true_and] at h
      refine br_f (by decide) (jy_ck HY (by omega) ?_)
      cases hC : (pu_ck m d cc cl ch V) q with
      | false =>
        rw [hC] at h
        exact br_t rfl (nm_r (nI_1 q) (ih (q + 1) true (by omega) h))
      | true =>
        refine br_f (by decide) ⟨jy_i (by omega) hc, jy_i (by omega) hc, ?_⟩
        rw [jy_v HY (by omega) hc, jy_v HY (by omega) hc]
        rw [hC] at h
        by_cases hv : V q c = V s c
        · rw [decide_eq_true hv] at h
          exact br_t hv (nm_r (nI_1 q) (ih (q + 1) false (by omega) h))
        · rw [decide_eq_false hv] at h
          exact br_f hv (nm_r (nI_1 q) (ih (q + 1) true (by omega) h))
theorem jb_diff (HX : jx_H n m xv cc V) (HY : jy_H n m yv cc V) {c : Nat} (hc : c < 3) : ∀ e i, i + e = n → ∀ a : Int32, ∃ r : Int32, (∀ post : Int32 → Prop, post r → wX_different_15 post (nI c) (nI n) fp (nI m) xv xp xt d cc cl ch (e + 1) a (nI i)) ∧ (∀ post : Int32 → Prop, post r → wY_different_15 post (nI c) (nI n) fp (nI m) yv yp yt d cc cl ch (e + 1) a (nI i)) := by
  have hn := HX.1
  intro e
  induction e with
  | zero =>
    intro i hi a
    have h : nI n ≤ nI i := nI_le (by omega) (by omega)
    exact ⟨a, fun _ hp => br_t h hp, fun _ hp => br_t h hp⟩
  | succ e ih =>
    intro i hi a
    have h : ¬ nI n ≤ nI i := nI_ge (by omega) (by omega)
    have hr : i < 96 := by omega
    obtain ⟨r, hX, hY⟩ := ih (i + 1) (by omega) (a + pb_I ((pu_ck m d cc cl ch V) i && pu_all (fun q => !((pu_ck m d cc cl ch V) q && decide (V q c = V i c))) i 0))
    refine ⟨r, fun post hp => br_f h (jx_ck HX (by omega) ?_), fun post hp => br_f h (jy_ck HY (by omega) ⟨i + 1, jy_diff33 HY hc (by omega) i 0 _ (by omega) (hY post hp)⟩)⟩
    have hX := hX post hp
    cases hC : (pu_ck m d cc cl ch V) i with
    | false =>
      rw [hC, Bool.false_and, show a + pb_I false = a from Int32.add_zero a] at hX
      exact br_t rfl (nm_r (nI_1 i) hX)
    | true =>
      rw [hC, Bool.true_and] at hX
      refine br_f (by decide) ⟨jx_i hr hc, ?_⟩
      rw [jx_v HX hr hc]
      refine jx_with HX hc (by omega) ?_
      have hcn := pu_cn_0 (P := fun q => (pu_ck m d cc cl ch V) q && decide (V q c = V i c)) i
      have hle := pu_cn_le (fun q => (pu_ck m d cc cl ch V) q && decide (V q c = V i c)) i
      by_cases hz : pu_cn (fun q => (pu_ck m d cc cl ch V) q && decide (V q c = V i c)) i = 0
      · have hall : pu_all (fun q => !((pu_ck m d cc cl ch V) q && decide (V q c = V i c))) i 0 = true := (pu_all_iff _ i 0).mpr (fun j _ hj => by
          have := hcn.mp hz j (by omega)
          rw [this]
          rfl)
        rw [hall] at hX
        rw [hz]
        exact br_t rfl (nm_e (nm_r (nI_1 i) hX))
      · have hall : pu_all (fun q => !((pu_ck m d cc cl ch V) q && decide (V q c = V i c))) i 0 = false := by
          cases q : pu_all (fun q => !((pu_ck m d cc cl ch V) q && decide (V q c = V i c))) i 0 with
          | false => rfl
          | true =>
            exfalso
            apply hz
            apply hcn.mpr
            intro j hj
            have := (pu_all_iff _ i 0).mp q j (by omega) (by omega)
            exact Bool.not_eq_true' _ |>.mp this
        rw [hall, show a + pb_I false = a from Int32.add_zero a] at hX
        exact br_f (nI_ne0 (by omega) (by omega)) (nm_r (nI_1 i) hX)
/-- the states of commonest: the row that is best so far, if any -/
def cm_bx (V : Nat → Nat → Int32) (c : Nat) : Option Nat → Int32
  | none => -1000000003
  | some b => V b c
def cm_tx (T : Int32 → Nat) (V : Nat → Nat → Int32) (c : Nat) : Option Nat → Int32
  | none => 0
  | some b => nI (T (V b c))
def cm_by : Option Nat → Int32
  | none => -1
  | some b => nI b
theorem jy_c104 {c s : Nat} {a : Int32} {post : Int32 → Prop} {J : Int32 → Int32 → Prop} (h : J (nI s) (nI (s + 1))) : wY_commonest_104 post J (nI c) a (nI s) (nI n) fp (nI m) yv yp yt d cc cl ch :=
  br_f (by decide) (nm_r (nI_1 s) h)
theorem jy_c108 {c s : Nat} {a : Int32} {post : Int32 → Prop} {J : Int32 → Int32 → Prop} (h : J a (nI (s + 1))) : wY_commonest_108 post J (nI c) a (nI s) (nI n) fp (nI m) yv yp yt d cc cl ch :=
  br_t rfl (nm_r (nI_1 s) h)
theorem jb_common (HX : jx_H n m xv cc V) (HY : jy_H n m yv cc V) {c : Nat} (hc : c < 3) {T : Int32 → Nat} (hT : T = fun v => pu_cn (fun q => (pu_ck m d cc cl ch V) q && decide (V q c = v)) n) : ∀ e i, i + e = n → ∀ o : Option Nat, (∀ b, o = some b → b < n) → ∃ r : Int32, (∀ post : Int32 → Prop, post r → wX_commonest_19 post (nI c) (nI n) fp (nI m) xv xp xt d cc cl ch (e + 1) (cm_bx V c o) (cm_tx T V c o) (nI i)) ∧ (∀ post : Int32 → Prop, post r → wY_commonest_15 post (nI c) (nI n) fp (nI m) yv yp yt d cc cl ch (e + 1) (cm_by o) (nI i)) := by
  have hn := HX.1
  intro e
  induction e with
  | zero =>
    intro i hi o ho
    have h : nI n ≤ nI i := nI_le (by omega) (by omega)
    refine ⟨cm_bx V c o, fun _ hp => br_t h hp, fun _ hp => br_t h ?_⟩
    cases o with
    | none => exact br_f (by decide) hp
    | some b =>
      have hb := ho b rfl
      refine br_t (nI_pos' (by omega)) ⟨jy_i (by omega) hc, ?_⟩
      rw [cm_by, jy_v HY (by omega) hc]
      exact hp
  | succ e ih =>
    intro i hi o ho
    have h : ¬ nI n ≤ nI i := nI_ge (by omega) (by omega)
    have hr : i < 96 := by omega
    cases hC : (pu_ck m d cc cl ch V) i with
    | false =>
      obtain ⟨r, hX, hY⟩ := ih (i + 1) (by omega) o ho
      refine ⟨r, fun post hp => br_f h (jx_ck HX (by omega) ?_), fun post hp => br_f h (jy_ck HY (by omega) ?_)⟩
      · rw [hC]; exact br_t rfl (nm_r (nI_1 i) (hX post hp))
      · rw [hC]; exact br_t rfl (nm_r (nI_1 i) (hY post hp))
    | true =>
      have hTi : 0 < T (V i c) := by
        rw [hT]
        exact Nat.lt_of_le_of_lt (Nat.zero_le _) (pu_cn_lt (i := i) (by omega) (by simp [hC]))
      have hTl : ∀ v, T v ≤ n := fun v => by rw [hT]; exact pu_cn_le _ n
      have hTi2 := hTl (V i c)
      have new : ∃ r : Int32, (∀ post : Int32 → Prop, post r → wX_commonest_19 post (nI c) (nI n) fp (nI m) xv xp xt d cc cl ch (e + 1) (V i c) (nI (T (V i c))) (nI (i + 1))) ∧ (∀ post : Int32 → Prop, post r → wY_commonest_15 post (nI c) (nI n) fp (nI m) yv yp yt d cc cl ch (e + 1) (nI i) (nI (i + 1))) := ih (i + 1) (by omega) (some i) (fun b hb => by cases hb; omega)
      have ew : ∀ v, pu_cn (fun q => (pu_ck m d cc cl ch V) q && decide (V q c = v)) n = T v := fun v => by rw [hT]
      cases o with
      | none =>
        obtain ⟨r, hX, hY⟩ := new
        refine ⟨r, fun post hp => br_f h (jx_ck HX (by omega) ?_), fun post hp => br_f h (jy_ck HY (by omega) ?_)⟩
        · rw [hC]
          refine br_f (by decide) ⟨jx_i hr hc, nm_r (jx_v HX hr hc) (jx_with HX hc hn ?_)⟩
          rw [ew]
          exact br_t (nI_lt (a := 0) hTi (by omega)) (nm_r (nI_1 i) (hX post hp))
        · rw [hC]
          exact br_f (by decide) ⟨jy_i hr hc, nm_r (jy_v HY hr hc) (br_f (by decide) (br_t (by decide) (jy_c104 (hY post hp))))⟩
      | some b =>
        have hb := ho b rfl
        have hb2 : b < 96 := by omega
        have old := ih (i + 1) (by omega) (some b) ho
        have hTb := hTl (V b c)
        have hb0 : (0 : Int32) ≤ nI b := nI_pos' (by omega)
        have hb1 : ¬ nI b < 0 := nI_pos (by omega)
        have toX : ∀ post : Int32 → Prop, ((nI (T (V b c)) < nI (T (V i c)) → wX_commonest_19 post (nI c) (nI n) fp (nI m) xv xp xt d cc cl ch (e + 1) (V i c) (nI (T (V i c))) (nI (i + 1))) ∧ (¬ nI (T (V b c)) < nI (T (V i c)) → (nI (T (V i c)) = nI (T (V b c)) → (V b c ≤ V i c → wX_commonest_19 post (nI c) (nI n) fp (nI m) xv xp xt d cc cl ch (e + 1) (V b c) (nI (T (V b c))) (nI (i + 1))) ∧ (¬ V b c ≤ V i c → wX_commonest_19 post (nI c) (nI n) fp (nI m) xv xp xt d cc cl ch (e + 1) (V i c) (nI (T (V i c))) (nI (i + 1)))) ∧ (¬ nI (T (V i c)) = nI (T (V b c)) → wX_commonest_19 post (nI c) (nI n) fp (nI m) xv xp xt d cc cl ch (e + 1) (V b c) (nI (T (V b c))) (nI (i + 1))))) → wX_commonest_19 post (nI c) (nI n) fp (nI m) xv xp xt d cc cl ch (e + 1 + 1) (V b c) (nI (T (V b c))) (nI i) := by
          intro post hh
          refine br_f h (jx_ck HX (by omega) ?_)
          rw [hC]
          refine br_f (by decide) ⟨jx_i hr hc, nm_r (jx_v HX hr hc) (jx_with HX hc hn ?_)⟩
          rw [ew]
          refine br_c (fun z => nm_r (nI_1 i) (hh.1 z)) (fun z => br_c (fun y => br_c (fun x => nm_r (nI_1 i) (((hh.2 z).1 y).1 x)) (fun x => nm_r (nI_1 i) (((hh.2 z).1 y).2 x))) (fun y => nm_r (nI_1 i) ((hh.2 z).2 y)))
        have toY : ∀ post : Int32 → Prop, ((nI (T (V b c)) < nI (T (V i c)) → wY_commonest_15 post (nI c) (nI n) fp (nI m) yv yp yt d cc cl ch (e + 1) (nI i) (nI (i + 1))) ∧ (¬ nI (T (V b c)) < nI (T (V i c)) → (nI (T (V i c)) = nI (T (V b c)) → (V b c ≤ V i c → wY_commonest_15 post (nI c) (nI n) fp (nI m) yv yp yt d cc cl ch (e + 1) (nI b) (nI (i + 1))) ∧ (¬ V b c ≤ V i c → wY_commonest_15 post (nI c) (nI n) fp (nI m) yv yp yt d cc cl ch (e + 1) (nI i) (nI (i + 1)))) ∧ (¬ nI (T (V i c)) = nI (T (V b c)) → wY_commonest_15 post (nI c) (nI n) fp (nI m) yv yp yt d cc cl ch (e + 1) (nI b) (nI (i + 1))))) → wY_commonest_15 post (nI c) (nI n) fp (nI m) yv yp yt d cc cl ch (e + 1 + 1) (nI b) (nI i) := by
          intro post hh
          refine br_f h (jy_ck HY (by omega) ?_)
          rw [hC]
          refine br_f (by decide) ⟨jy_i hr hc, nm_r (jy_v HY hr hc) (br_t hb0 ⟨jy_i hb2 hc, ?_⟩)⟩
          rw [jy_v HY hb2 hc]
          refine br_f hb1 (jy_like HY hc hr (jy_like HY hc hb2 ?_))
          rw [ew, ew]
          refine br_c (fun z => jy_c104 (hh.1 z)) (fun z => jy_like HY hc hr (jy_like HY hc hb2 ?_))
          rw [ew, ew]
          exact br_c (fun y => br_c (fun x => jy_c108 (((hh.2 z).1 y).1 x)) (fun x => jy_c104 (((hh.2 z).1 y).2 x))) (fun y => jy_c108 ((hh.2 z).2 y))
        by_cases z : nI (T (V b c)) < nI (T (V i c))
        · obtain ⟨r, hX, hY⟩ := new
          exact ⟨r, fun post hp => toX post (br_t z (hX post hp)), fun post hp => toY post (br_t z (hY post hp))⟩
        · by_cases y : nI (T (V i c)) = nI (T (V b c))
          · by_cases x : V b c ≤ V i c
            · obtain ⟨r, hX, hY⟩ := old
              exact ⟨r, fun post hp => toX post (br_f z (br_t y (br_t x (hX post hp)))), fun post hp => toY post (br_f z (br_t y (br_t x (hY post hp))))⟩
            · obtain ⟨r, hX, hY⟩ := new
              exact ⟨r, fun post hp => toX post (br_f z (br_t y (br_f x (hX post hp)))), fun post hp => toY post (br_f z (br_t y (br_f x (hY post hp))))⟩
          · obtain ⟨r, hX, hY⟩ := old
            exact ⟨r, fun post hp => toX post (br_f z (br_f y (hX post hp))), fun post hp => toY post (br_f z (br_f y (hY post hp)))⟩
