section
/-! rows pasted from kit/rows -/
theorem pk_us {f : Nat → Int32} {k : Nat} {x : Int32} : upd f k x k = x := if_pos rfl
theorem pk_un {f : Nat → Int32} {k j : Nat} {x : Int32} (h : j ≠ k) : upd f k x j = f j := if_neg h
theorem pk_sub {a b : Nat} (h : b ≤ a) : nI a - nI b = nI (a - b) := by
  obtain ⟨c, rfl⟩ : ∃ c, a = c + b := ⟨a - b, by omega⟩
  rw [← nI_add, Int32.add_sub_cancel, Nat.add_sub_cancel]
theorem pk_m1 (n : Nat) : nI (n + 1) + (-1) = nI n := by
  rw [← nI_1, Int32.add_assoc, show (1 : Int32) + (-1) = 0 from rfl, Int32.add_zero]
theorem pk_mul (a b : Nat) : nI a * nI b = nI (a * b) := (Int32.ofNat_mul a b).symm
theorem pk_div {a d : Nat} (ha : a < 2 ^ 31) (h0 : 0 < d) (hd : d < 2 ^ 31) : nI a / nI d = nI (a / d) := by
  apply Int32.toInt_inj.mp
  rw [lg_idiv_nonneg (by rw [nI_toInt ha]; omega) (by rw [nI_toInt hd]; omega), nI_toInt ha, nI_toInt hd, nI_toInt (Nat.lt_of_le_of_lt (Nat.div_le_self a d) ha)]
  first | rfl | exact (Int.natCast_ediv _ _).symm
theorem pk_rem {a d : Nat} (ha : a < 2 ^ 31) (h0 : 0 < d) (hd : d < 2 ^ 31) : nI a - nI a / nI d * nI d = nI (a % d) := by
  rw [pk_div ha h0 hd, pk_mul, pk_sub (Nat.div_mul_le_self a d)]
  exact congrArg nI (by have := Nat.div_add_mod' a d; omega)
theorem pk_ix (x : Int32) {n : Nat} (hn : n < 2 ^ 31) : x < 0 ∨ nI n ≤ x ∨ ∃ j : Nat, j < n ∧ x = nI j := by
  by_cases h : x < 0
  · exact Or.inl h
  · obtain ⟨j, hj, rfl⟩ := nI_of h
    by_cases h2 : j < n
    · exact Or.inr (Or.inr ⟨j, h2, rfl⟩)
    · exact Or.inr (Or.inl (nI_le (by omega) hj))
theorem pk_le {x y : Int32} {A B : Prop} (a b : Nat) (f : a ≤ b → A) (g : b < a → B) (hx : x = nI a := by rfl) (hy : y = nI b := by rfl) (ha : a < 2 ^ 31 := by omega) (hb : b < 2 ^ 31 := by omega) : (x ≤ y → A) ∧ (¬ x ≤ y → B) := by
  subst hx hy
  rw [nI_leI ha hb]
  exact ⟨f, fun z => g (by omega)⟩
theorem pk_lt {x y : Int32} {A B : Prop} (a b : Nat) (f : a < b → A) (g : b ≤ a → B) (hx : x = nI a := by rfl) (hy : y = nI b := by rfl) (ha : a < 2 ^ 31 := by omega) (hb : b < 2 ^ 31 := by omega) : (x < y → A) ∧ (¬ x < y → B) := by
  subst hx hy
  rw [nI_ltI ha hb]
  exact ⟨f, fun z => g (by omega)⟩
theorem pk_eq {x y : Int32} {A B : Prop} (a b : Nat) (f : a = b → A) (g : a ≠ b → B) (hx : x = nI a := by rfl) (hy : y = nI b := by rfl) (ha : a < 2 ^ 31 := by omega) (hb : b < 2 ^ 31 := by omega) : (x = y → A) ∧ (¬ x = y → B) := by
  subst hx hy
  rw [nI_eq ha hb]
  exact ⟨f, g⟩
theorem pk_in {x : Int32} (n N : Nat) (h : n < N) (hx : x = nI n := by rfl) (hN : N < 2 ^ 31 := by omega) : vp_in x N := by
  subst hx
  exact vp_in_nI h hN
theorem pk_cl {x : Int32} (n : Nat) (hx : x = nI n := by rfl) (h : n < 2 ^ 31 := by omega) : x.toNatClampNeg = n := by
  subst hx
  exact nI_clamp h
theorem pk_lT {n : Nat} (h : n < 2 ^ 63) : (lN n).toInt = (n : Int) := lg_ofNat_toInt h
theorem pk_lLT {a b : Nat} (ha : a < 2 ^ 63) (hb : b < 2 ^ 63) : lN a < lN b ↔ a < b := by
  rw [Int64.lt_iff_toInt_lt, pk_lT ha, pk_lT hb]; omega
theorem pk_lLE {a b : Nat} (ha : a < 2 ^ 63) (hb : b < 2 ^ 63) : lN a ≤ lN b ↔ a ≤ b := by
  rw [Int64.le_iff_toInt_le, pk_lT ha, pk_lT hb]; omega
theorem pk_lEQ {a b : Nat} (ha : a < 2 ^ 63) (hb : b < 2 ^ 63) : lN a = lN b ↔ a = b := by
  rw [← Int64.toInt_inj, pk_lT ha, pk_lT hb]; omega
theorem pk_lOf {x : Int64} (h : ¬ x < 0) : ∃ k : Nat, k < 2 ^ 63 ∧ x = lN k := by
  rw [Int64.lt_iff_toInt_lt] at h
  have h0 : (0 : Int64).toInt = 0 := by decide
  have hx := Int64.toInt_lt x
  refine ⟨x.toInt.toNat, by omega, Int64.toInt_inj.mp ?_⟩
  rw [pk_lT (by omega)]
  omega
theorem wb_tb (n : Nat) : (lN n).toBitVec = BitVec.ofNat 64 n := rfl
theorem wb_inj {a b : Int64} (h : a.toBitVec = b.toBitVec) : a = b := Int64.toBitVec_inj.mp h
theorem wb_c : ∀ k, k < 64 → ((nI k).toInt64 &&& 63) = lN k := by decide +kernel
theorem wb_sm : ∀ k, k < 64 → (BitVec.ofNat 64 k).smod 64 = BitVec.ofNat 64 k := by decide +kernel
theorem wb_shl (n : Nat) {k : Nat} (hk : k < 64) : lN n <<< ((nI k).toInt64 &&& 63) = lN (n * 2 ^ k) := by
  rw [wb_c k hk]
  apply wb_inj
  rw [Int64.toBitVec_shiftLeft, wb_tb, wb_tb, wb_tb, wb_sm k hk]
  apply BitVec.eq_of_toNat_eq
  rw [BitVec.shiftLeft_eq', BitVec.toNat_shiftLeft, BitVec.toNat_ofNat, BitVec.toNat_ofNat, BitVec.toNat_ofNat, Nat.mod_eq_of_lt (show k < 2 ^ 64 by omega), Nat.shiftLeft_eq, Nat.mul_mod, Nat.mod_mod, ← Nat.mul_mod]
end
section
/-! the pure picture: numbers, conditions, chosen rows, counts -/
def pb_I : Bool → Int32
  | true => 1
  | false => 0
theorem pb_n (b : Bool) : narrow .boolean (.int (pb_I b)) = .int (pb_I b) := by cases b <;> rfl
theorem pb_0 : vp_nar .boolean 0 = 0 := rfl
theorem pb_1 : vp_nar .boolean 1 = 1 := rfl
theorem ax_x (c r : Nat) : (nI c * 96) + nI r = nI (c * 96 + r) := by
  show nI c * nI 96 + nI r = _
  rw [pk_mul, nI_add]
theorem ax_y (r c : Nat) : (3 * nI r) + nI c = nI (3 * r + c) := by
  show nI 3 * nI r + nI c = _
  rw [pk_mul, nI_add]
theorem ax_s (b c : Nat) : (nI c * 96) + (nI b * 16) = nI (c * 96 + b * 16) := by
  show nI c * nI 96 + nI b * nI 16 = _
  rw [pk_mul, pk_mul, nI_add]
theorem ax_p (b i c : Nat) : ((48 * nI b) + (3 * nI i)) + nI c = nI (48 * b + 3 * i + c) := by
  show nI 48 * nI b + nI 3 * nI i + nI c = _
  rw [pk_mul, pk_mul, nI_add, nI_add]
theorem ax_d {n : Nat} (h : n ≤ 96) : nI n / 16 = nI (n / 16) := pk_div (d := 16) (by omega) (by decide) (by decide)
theorem ax_r {n : Nat} (h : n ≤ 96) : nI n - nI n / 16 * 16 = nI (n % 16) := pk_rem (d := 16) (by omega) (by decide) (by decide)
theorem ax_16 : ¬ (16 : Int32) = 0 := by decide
def pu_met (cl ch : Nat → Int32) (j : Nat) (x : Int32) : Bool := !decide (x < cl j) && !decide (ch j < x)
def pu_all (f : Nat → Bool) : Nat → Nat → Bool
  | 0, _ => true
  | e + 1, j => f j && pu_all f e (j + 1)
def pu_ck (m : Nat) (d cc cl ch : Nat → Int32) (V : Nat → Nat → Int32) (r : Nat) : Bool :=
  decide (d r = 0) && pu_all (fun j => pu_met cl ch j (V r (cc j).toNatClampNeg)) m 0
/-- the number of q below i with P q -/
def pu_cn (P : Nat → Bool) : Nat → Nat
  | 0 => 0
  | i + 1 => pu_cn P i + (if P i then 1 else 0)
theorem pu_cn_t {P : Nat → Bool} {i : Nat} (h : P i = true) : pu_cn P (i + 1) = pu_cn P i + 1 := by simp [pu_cn, h]
theorem pu_cn_f {P : Nat → Bool} {i : Nat} (h : P i = false) : pu_cn P (i + 1) = pu_cn P i := by simp [pu_cn, h]
theorem pu_cn_le (P : Nat → Bool) : ∀ i, pu_cn P i ≤ i
  | 0 => Nat.le_refl _
  | i + 1 => by
    have := pu_cn_le P i
    unfold pu_cn
    split <;> omega
theorem pu_cn_mono (P : Nat → Bool) (i : Nat) : ∀ e, pu_cn P i ≤ pu_cn P (i + e)
  | 0 => Nat.le_refl _
  | e + 1 => by
    have := pu_cn_mono P i e
    show _ ≤ pu_cn P (i + e) + _
    omega
theorem pu_cn_mono' (P : Nat → Bool) {i n : Nat} (h : i ≤ n) : pu_cn P i ≤ pu_cn P n := by
  have := pu_cn_mono P i (n - i)
  rwa [show i + (n - i) = n from by omega] at this
theorem pu_cn_lt {P : Nat → Bool} {i n : Nat} (h : i < n) (hi : P i = true) : pu_cn P i < pu_cn P n := by
  have := pu_cn_mono' P (i := i + 1) (n := n) h
  rw [pu_cn_t hi] at this
  omega
theorem pu_cn_sub {P Q : Nat → Bool} : ∀ n, (∀ i, i < n → P i = true → Q i = true) → pu_cn P n ≤ pu_cn Q n
  | 0, _ => Nat.le_refl _
  | n + 1, h => by
    have ih := pu_cn_sub n (fun i hi => h i (by omega))
    have hn := h n (by omega)
    unfold pu_cn
    cases hp : P n with
    | false => simp; omega
    | true => rw [hn hp]; simp; omega
theorem pu_cn_add {P Q R : Nat → Bool} : ∀ n, (∀ i, i < n → R i = (P i || Q i)) → (∀ i, i < n → ¬ (P i = true ∧ Q i = true)) → pu_cn R n = pu_cn P n + pu_cn Q n
  | 0, _, _ => rfl
  | n + 1, h, g => by
    have ih := pu_cn_add n (fun i hi => h i (by omega)) (fun i hi => g i (by omega))
    have hn := h n (by omega)
    have gn := g n (by omega)
    unfold pu_cn
    rw [ih, hn]
    cases hp : P n <;> cases hq : Q n <;> simp_all <;> omega
/-- each number below the count is reached at a counted place -/
theorem pu_cn_hit {P : Nat → Bool} : ∀ n t, t < pu_cn P n → ∃ i, i < n ∧ P i = true ∧ pu_cn P i = t
  | 0, t, h => by simp [pu_cn] at h
  | n + 1, t, h => by
    by_cases h2 : t < pu_cn P n
    · obtain ⟨i, hi, e⟩ := pu_cn_hit n t h2
      exact ⟨i, by omega, e⟩
    · cases hp : P n with
      | false => rw [pu_cn_f hp] at h; omega
      | true => rw [pu_cn_t hp] at h; exact ⟨n, by omega, hp, by omega⟩
theorem pu_cn_0 {P : Nat → Bool} : ∀ n, pu_cn P n = 0 ↔ ∀ i, i < n → P i = false
  | 0 => ⟨fun _ i hi => by omega, fun _ => rfl⟩
  | n + 1 => by
    have ih := pu_cn_0 (P := P) n
    constructor
    · intro h i hi
      cases hp : P i with
      | false => rfl
      | true =>
        have := pu_cn_lt hi hp
        omega
    · intro h
      have hn := h n (by omega)
      rw [pu_cn_f hn]
      exact ih.mpr (fun i hi => h i (by omega))
/-- what X's side holds: rows, conditions, values -/
def jx_H (n m : Nat) (xv cc : Nat → Int32) (V : Nat → Nat → Int32) : Prop :=
  n ≤ 96 ∧ m ≤ 4 ∧ (∀ j, ∃ c, c < 3 ∧ cc j = nI c) ∧ ∀ r c, r < 96 → c < 3 → xv (c * 96 + r) = V r c
def jy_H (n m : Nat) (yv cc : Nat → Int32) (V : Nat → Nat → Int32) : Prop :=
  n ≤ 96 ∧ m ≤ 4 ∧ (∀ j, ∃ c, c < 3 ∧ cc j = nI c) ∧ ∀ r c, r < 96 → c < 3 → yv (3 * r + c) = V r c
/-- a value of X: column c of row r -/
theorem jx_v {n m : Nat} {xv cc : Nat → Int32} {V : Nat → Nat → Int32} (H : jx_H n m xv cc V) {r c : Nat} (hr : r < 96) (hc : c < 3) : xv ((nI c * 96) + nI r).toNatClampNeg = V r c := by
  rw [ax_x, nI_clamp (by omega)]
  exact H.2.2.2 r c hr hc
theorem jx_i {r c : Nat} (hr : r < 96) (hc : c < 3) : vp_in ((nI c * 96) + nI r) 288 := by
  rw [ax_x]
  exact vp_in_nI (by omega) (by decide)
theorem jy_v {n m : Nat} {yv cc : Nat → Int32} {V : Nat → Nat → Int32} (H : jy_H n m yv cc V) {r c : Nat} (hr : r < 96) (hc : c < 3) : yv ((3 * nI r) + nI c).toNatClampNeg = V r c := by
  rw [ax_y, nI_clamp (by omega)]
  exact H.2.2.2 r c hr hc
theorem jy_i {r c : Nat} (hr : r < 96) (hc : c < 3) : vp_in ((3 * nI r) + nI c) 288 := by
  rw [ax_y]
  exact vp_in_nI (by omega) (by decide)
end
section
/-! isColumn, isWithin / isMet, isChosen on both sides -/
variable {n m : Nat} {fp : Int32} {xv xp xt yv yp yt d cc cl ch : Nat → Int32} {V P : Nat → Nat → Int32}
theorem jx_col {post : Int32 → Prop} {x : Int32} (h0 : x < 0 ∨ 3 ≤ x → post 0) (h1 : ∀ c, c < 3 → x = nI c → post 1) : wpX_isColumn post (nI n, fp, nI m, xv, xp, xt, d, cc, cl, ch) x := by
  by_cases a : x < 0
  · exact br_t a (h0 (Or.inl a))
  · by_cases b : 3 ≤ x
    · exact br_f a (br_t b (h0 (Or.inr b)))
    · obtain ⟨j, hj, e⟩ := nI_of a
      refine br_f a (br_f b (h1 j ?_ e))
      rw [e] at b
      have : ¬ nI 3 ≤ nI j := b
      rw [nI_leI (by decide) hj] at this
      omega
theorem jy_col {post : Int32 → Prop} {x : Int32} (h0 : x < 0 ∨ 3 ≤ x → post 0) (h1 : ∀ c, c < 3 → x = nI c → post 1) : wpY_isColumn post (nI n, fp, nI m, yv, yp, yt, d, cc, cl, ch) x := by
  by_cases a : x < 0
  · exact br_t a (h0 (Or.inl a))
  · obtain ⟨j, hj, e⟩ := nI_of a
    refine br_f a ?_
    rw [e]
    refine pk_lt 2 j (fun h => h0 (Or.inr ?_)) (fun h => h1 j (by omega) e)
    rw [e]
    exact nI_le (a := 3) (by omega) hj
theorem jx_within {post : Int32 → Prop} {j : Nat} {x : Int32} (hj : j < 4) (h : post (pb_I (pu_met cl ch j x))) : wpX_isWithin post (nI n, fp, nI m, xv, xp, xt, d, cc, cl, ch) (nI j) x := by
  have hi : vp_in (nI j) 4 := vp_in_nI hj (by decide)
  have hc : (nI j).toNatClampNeg = j := nI_clamp (by omega)
  refine ⟨hi, ?_⟩
  rw [hc]
  by_cases h1 : x < cl j
  · rw [show pu_met cl ch j x = false by simp [pu_met, h1]] at h
    exact br_t h1 h
  · by_cases h2 : ch j < x
    · rw [show pu_met cl ch j x = false by simp [pu_met, h2]] at h
      exact br_f h1 ⟨hi, br_t h2 h⟩
    · rw [show pu_met cl ch j x = true by unfold pu_met; rw [decide_eq_false h1, decide_eq_false h2]; rfl] at h
      exact br_f h1 ⟨hi, br_f h2 h⟩
theorem jy_met {post : Int32 → Prop} {j : Nat} {x : Int32} (hj : j < 4) (h : post (pb_I (pu_met cl ch j x))) : wpY_isMet post (nI n, fp, nI m, yv, yp, yt, d, cc, cl, ch) (nI j) x := by
  have hi : vp_in (nI j) 4 := vp_in_nI hj (by decide)
  have hc : (nI j).toNatClampNeg = j := nI_clamp (by omega)
  refine ⟨hi, ?_⟩
  rw [hc]
  by_cases h1 : x < cl j
  · rw [show pu_met cl ch j x = false by simp [pu_met, h1]] at h
    exact br_t h1 h
  · by_cases h2 : ch j < x
    · rw [show pu_met cl ch j x = false by simp [pu_met, h2]] at h
      exact br_f h1 ⟨hi, br_t h2 h⟩
    · rw [show pu_met cl ch j x = true by unfold pu_met; rw [decide_eq_false h1, decide_eq_false h2]; rfl] at h
      exact br_f h1 ⟨hi, br_f h2 h⟩
theorem jx_ck13 {post : Int32 → Prop} {r : Nat} (H : jx_H n m xv cc V) (hr : r < 96) : ∀ e j, j + e = m → post (pb_I (pu_all (fun j => pu_met cl ch j (V r (cc j).toNatClampNeg)) e j)) → wX_isChosen_13 post (nI r) (nI n) fp (nI m) xv xp xt d cc cl ch (e + 1) (nI j) := by
  intro e
  induction e with
  | zero =>
    intro j hj h
    have := H.2.1
    exact br_t (nI_le (by omega) (by omega)) h
  | succ e ih =>
    intro j hj h
    have hm := H.2.1
    have hz : ¬ nI m ≤ nI j := nI_ge (by omega) (by omega)
    obtain ⟨c, hc, ec⟩ := H.2.2.1 j
    have ej : (nI j).toNatClampNeg = j := nI_clamp (by omega)
    have e2 : (cc j).toNatClampNeg = c := by rw [ec]; exact nI_clamp (by omega)
    refine br_f hz ⟨vp_in_nI (by omega) (by decide), ?_⟩
    rw [ej, ec]
    refine ⟨jx_i hr hc, ?_⟩
    rw [jx_v H hr hc]
    refine jx_within (by omega) ?_
    unfold pu_all at h
    rw [e2] at h
    cases hq : pu_met cl ch j (V r c) with
    | false => rw [hq] at h; exact br_t rfl h
    | true => rw [hq, Bool.true_and] at h; exact br_f (by decide) (nm_r (nI_1 j) (ih (j + 1) (by omega) h))
theorem jx_ck {post : Int32 → Prop} {r : Nat} (H : jx_H n m xv cc V) (hr : r < 96) (h : post (pb_I ((pu_ck m d cc cl ch V) r))) : wpX_isChosen post (nI n, fp, nI m, xv, xp, xt, d, cc, cl, ch) (nI r) := by
  refine ⟨vp_in_nI hr (by decide), ?_⟩
  rw [nI_clamp (by omega)]
  unfold pu_ck at h
  by_cases hd : d r = 0
  · rw [decide_eq_true hd, Bool.true_and] at h
    exact br_t hd ⟨m + 1, jx_ck13 H hr m 0 (by omega) h⟩
  · rw [decide_eq_false hd, Bool.false_and] at h
    exact br_f hd h
theorem jy_ck25 {post : Int32 → Prop} {r : Nat} (H : jy_H n m yv cc V) (hr : r < 96) : ∀ e j b, j + e = m → post (pb_I (b && pu_all (fun j => pu_met cl ch j (V r (cc j).toNatClampNeg)) e j)) → wY_isChosen_25 post (nI r) (nI n) fp (nI m) yv yp yt d cc cl ch (e + 1) (pb_I b) (nI j) := by
  intro e
  induction e with
  | zero =>
    intro j b hj h
    have := H.2.1
    refine br_t (nI_le (by omega) (by omega)) ⟨pb_n b, ?_⟩
    rwa [pu_all, Bool.and_true] at h
  | succ e ih =>
    intro j b hj h
    have hm := H.2.1
    have hz : ¬ nI m ≤ nI j := nI_ge (by omega) (by omega)
    obtain ⟨c, hc, ec⟩ := H.2.2.1 j
    have ej : (nI j).toNatClampNeg = j := nI_clamp (by omega)
    have e2 : (cc j).toNatClampNeg = c := by rw [ec]; exact nI_clamp (by omega)
    refine br_f hz ?_
    cases b with
    | false => rw [Bool.false_and] at h; exact br_t rfl ⟨pb_n false, h⟩
    | true =>
      refine br_f (by decide) ⟨vp_in_nI (by omega) (by decide), ?_⟩
      rw [ej, ec]
      refine ⟨jy_i hr hc, ?_⟩
      rw [jy_v H hr hc]
      refine jy_met (by omega) (nm_r (nI_1 j) (ih (j + 1) _ (by omega) ?_))
      unfold pu_all at h
      rwa [e2, Bool.true_and] at h
theorem jy_ck {post : Int32 → Prop} {r : Nat} (H : jy_H n m yv cc V) (hr : r < n) (h : post (pb_I ((pu_ck m d cc cl ch V) r))) : wpY_isChosen post (nI n, fp, nI m, yv, yp, yt, d, cc, cl, ch) (nI r) := by
  have hn := H.1
  refine br_f (nI_ge hr (by omega)) ⟨vp_in_nI (by omega) (by decide), ?_⟩
  rw [nI_clamp (by omega)]
  unfold pu_ck at h
  by_cases hd : d r = 0
  · rw [decide_eq_true hd] at h
    exact br_t hd ⟨m + 1, jy_ck25 H (by omega) m 0 true (by omega) h⟩
  · rw [decide_eq_false hd] at h
    exact br_f hd ⟨m + 1, jy_ck25 H (by omega) m 0 false (by omega) h⟩
end
section
/-! loops over the rows: count, chosen, sum, least, delete in lockstep; counts against pu_cn -/
variable {n m : Nat} {fp : Int32} {xv xp xt yv yp yt d cc cl ch : Nat → Int32} {V P : Nat → Nat → Int32}
theorem jb_count (HX : jx_H n m xv cc V) (HY : jy_H n m yv cc V) : ∀ e i, i + e = n → ∀ a : Int32, ∃ r : Int32, (∀ post : Int32 → Prop, post r → wX_count_4 post (nI n) fp (nI m) xv xp xt d cc cl ch (e + 1) a (nI i)) ∧ (∀ post : Int32 → Prop, post r → wY_count_4 post (nI n) fp (nI m) yv yp yt d cc cl ch (e + 1) a (nI i)) := by
  have hn := HX.1
  intro e
  induction e with
  | zero =>
    intro i hi a
    have h : nI n ≤ nI i := nI_le (by omega) (by omega)
    exact ⟨a, fun _ hp => br_t h hp, fun _ hp => br_t h hp⟩
  | succ e ih =>
    intro i hi a
    have h : ¬ nI n ≤ nI i := nI_ge (by omega) (by omega)
    cases hC : (pu_ck m d cc cl ch V) i with
    | false =>
      obtain ⟨r, hX, hY⟩ := ih (i + 1) (by omega) a
      refine ⟨r, fun post hp => br_f h (jx_ck HX (by omega) ?_), fun post hp => br_f h (jy_ck HY (by omega) ?_)⟩
      · rw [hC]; exact br_t rfl (nm_r (nI_1 i) (hX post hp))
      · rw [hC]; exact br_t rfl (nm_r (nI_1 i) (hY post hp))
    | true =>
      obtain ⟨r, hX, hY⟩ := ih (i + 1) (by omega) (a + 1)
      refine ⟨r, fun post hp => br_f h (jx_ck HX (by omega) ?_), fun post hp => br_f h (jy_ck HY (by omega) ?_)⟩
      · rw [hC]; exact br_f (by decide) (nm_e (nm_r (nI_1 i) (hX post hp)))
      · rw [hC]; exact br_f (by decide) (nm_e (nm_r (nI_1 i) (hY post hp)))
theorem jb_chosen (HX : jx_H n m xv cc V) (HY : jy_H n m yv cc V) (k : Int32) : ∀ e i, i + e = n → ∀ a : Int32, ∃ r : Int32, (∀ post : Int32 → Prop, post r → wX_chosen_4 post k (nI n) fp (nI m) xv xp xt d cc cl ch (e + 1) a (nI i)) ∧ (∀ post : Int32 → Prop, post r → wY_chosen_4 post (nI n) fp (nI m) yv yp yt d cc cl ch (e + 1) (k - a) (nI i)) := by
  have hn := HX.1
  intro e
  induction e with
  | zero =>
    intro i hi a
    have h : nI n ≤ nI i := nI_le (by omega) (by omega)
    exact ⟨_, fun _ hp => br_t h hp, fun _ hp => br_t h hp⟩
  | succ e ih =>
    intro i hi a
    have h : ¬ nI n ≤ nI i := nI_ge (by omega) (by omega)
    cases hC : (pu_ck m d cc cl ch V) i with
    | false =>
      obtain ⟨r, hX, hY⟩ := ih (i + 1) (by omega) a
      refine ⟨r, fun post hp => br_f h (jx_ck HX (by omega) ?_), fun post hp => br_f h (jy_ck HY (by omega) ?_)⟩
      · rw [hC]; exact br_t rfl (nm_r (nI_1 i) (hX post hp))
      · rw [hC]; exact br_t rfl (nm_r (nI_1 i) (hY post hp))
    | true =>
      by_cases hk : a = k
      · have hk2 : k - a = 0 := by grind
        refine ⟨nI i, fun post hp => br_f h (jx_ck HX (by omega) ?_), fun post hp => br_f h (jy_ck HY (by omega) ?_)⟩
        · rw [hC]; exact br_f (by decide) (br_t hk hp)
        · rw [hC]; exact br_f (by decide) (br_t hk2 hp)
      · have hk2 : ¬ k - a = 0 := by grind
        have e1 : k - a + (-1) = k - (a + 1) := by grind
        obtain ⟨r, hX, hY⟩ := ih (i + 1) (by omega) (a + 1)
        refine ⟨r, fun post hp => br_f h (jx_ck HX (by omega) ?_), fun post hp => br_f h (jy_ck HY (by omega) ?_)⟩
        · rw [hC]; exact br_f (by decide) (br_f hk (nm_e (nm_r (nI_1 i) (hX post hp))))
        · rw [hC]; exact br_f (by decide) (br_f hk2 (nm_r e1 (nm_r (nI_1 i) (hY post hp))))
theorem jb_sum (HX : jx_H n m xv cc V) (HY : jy_H n m yv cc V) {c : Nat} (hc : c < 3) : ∀ e i, i + e = n → ∀ a : Int32, ∃ r : Int32, (∀ post : Int32 → Prop, post r → wX_sum_15 post (nI c) (nI n) fp (nI m) xv xp xt d cc cl ch (e + 1) a (nI i)) ∧ (∀ post : Int32 → Prop, post r → wY_sum_15 post (nI c) (nI n) fp (nI m) yv yp yt d cc cl ch (e + 1) a (nI i)) := by
  have hn := HX.1
  intro e
  induction e with
  | zero =>
    intro i hi a
    have h : nI n ≤ nI i := nI_le (by omega) (by omega)
    exact ⟨a, fun _ hp => br_t h hp, fun _ hp => br_t h hp⟩
  | succ e ih =>
    intro i hi a
    have h : ¬ nI n ≤ nI i := nI_ge (by omega) (by omega)
    have hr : i < 96 := by omega
    cases hC : (pu_ck m d cc cl ch V) i with
    | false =>
      obtain ⟨r, hX, hY⟩ := ih (i + 1) (by omega) a
      refine ⟨r, fun post hp => br_f h (jx_ck HX (by omega) ?_), fun post hp => br_f h (jy_ck HY (by omega) ?_)⟩
      · rw [hC]; exact br_t rfl (nm_r (nI_1 i) (hX post hp))
      · rw [hC]; exact br_t rfl (nm_r (nI_1 i) (hY post hp))
    | true =>
      obtain ⟨r, hX, hY⟩ := ih (i + 1) (by omega) (a + V i c)
      refine ⟨r, fun post hp => br_f h (jx_ck HX (by omega) ?_), fun post hp => br_f h (jy_ck HY (by omega) ?_)⟩
      · rw [hC]; exact br_f (by decide) ⟨jx_i hr hc, nm_r (by rw [jx_v HX hr hc]) (nm_r (nI_1 i) (hX post hp))⟩
      · rw [hC]; exact br_f (by decide) ⟨jy_i hr hc, nm_r (by rw [jy_v HY hr hc]) (nm_r (nI_1 i) (hY post hp))⟩
theorem jb_least (HX : jx_H n m xv cc V) (HY : jy_H n m yv cc V) {c : Nat} (hc : c < 3) : ∀ e i, i + e = n → ∀ b a : Int32, ∃ r : Int32, (∀ post : Int32 → Prop, post r → wX_least_19 post (nI c) (nI n) fp (nI m) xv xp xt d cc cl ch (e + 1) b a (nI i)) ∧ (∀ post : Int32 → Prop, post r → wY_least_19 post (nI c) (nI n) fp (nI m) yv yp yt d cc cl ch (e + 1) b a (nI i)) := by
  have hn := HX.1
  intro e
  induction e with
  | zero =>
    intro i hi b a
    have h : nI n ≤ nI i := nI_le (by omega) (by omega)
    exact ⟨a, fun _ hp => br_t h hp, fun _ hp => br_t h hp⟩
  | succ e ih =>
    intro i hi b a
    have h : ¬ nI n ≤ nI i := nI_ge (by omega) (by omega)
    have hr : i < 96 := by omega
    cases hC : (pu_ck m d cc cl ch V) i with
    | false =>
      obtain ⟨r, hX, hY⟩ := ih (i + 1) (by omega) b a
      refine ⟨r, fun post hp => br_f h (jx_ck HX (by omega) ?_), fun post hp => br_f h (jy_ck HY (by omega) ?_)⟩
      · rw [hC]; exact br_t rfl (nm_r (nI_1 i) (hX post hp))
      · rw [hC]; exact br_t rfl (nm_r (nI_1 i) (hY post hp))
    | true =>
      by_cases hb : b = 0
      · obtain ⟨r, hX, hY⟩ := ih (i + 1) (by omega) 1 (V i c)
        refine ⟨r, fun post hp => br_f h (jx_ck HX (by omega) ?_), fun post hp => br_f h (jy_ck HY (by omega) ?_)⟩
        · rw [hC]; exact br_f (by decide) ⟨jx_i hr hc, nm_r (jx_v HX hr hc) (br_t hb (nm_r (nI_1 i) (hX post hp)))⟩
        · rw [hC]; exact br_f (by decide) ⟨jy_i hr hc, nm_r (jy_v HY hr hc) (br_t hb (nm_r (nI_1 i) (hY post hp)))⟩
      · by_cases ha : a ≤ V i c
        · obtain ⟨r, hX, hY⟩ := ih (i + 1) (by omega) 1 a
          refine ⟨r, fun post hp => br_f h (jx_ck HX (by omega) ?_), fun post hp => br_f h (jy_ck HY (by omega) ?_)⟩
          · rw [hC]; exact br_f (by decide) ⟨jx_i hr hc, nm_r (jx_v HX hr hc) (br_f hb (br_t ha (nm_r (nI_1 i) (hX post hp))))⟩
          · rw [hC]; exact br_f (by decide) ⟨jy_i hr hc, nm_r (jy_v HY hr hc) (br_f hb (br_t ha (nm_r (nI_1 i) (hY post hp))))⟩
        · obtain ⟨r, hX, hY⟩ := ih (i + 1) (by omega) 1 (V i c)
          refine ⟨r, fun post hp => br_f h (jx_ck HX (by omega) ?_), fun post hp => br_f h (jy_ck HY (by omega) ?_)⟩
          · rw [hC]; exact br_f (by decide) ⟨jx_i hr hc, nm_r (jx_v HX hr hc) (br_f hb (br_f ha (nm_r (nI_1 i) (hX post hp))))⟩
          · rw [hC]; exact br_f (by decide) ⟨jy_i hr hc, nm_r (jy_v HY hr hc) (br_f hb (br_f ha (nm_r (nI_1 i) (hY post hp))))⟩
theorem jb_delete (hn : n ≤ 96) : ∀ e i, i + e = n → ∀ a : Int32, ∃ r : Int32, (∀ post : Int32 → SX → Prop, post r (nI n, fp, nI m, xv, xp, xt, d, cc, cl, ch) → wX_delete_22 post (nI n) fp (nI m) xv xp xt d cc cl ch (e + 1) a (nI i)) ∧ (∀ post : Int32 → SY → Prop, post r (nI n, fp, nI m, yv, yp, yt, d, cc, cl, ch) → wY_delete_22 post (nI n) fp (nI m) yv yp yt d cc cl ch (e + 1) a (nI i)) := by
  intro e
  induction e with
  | zero =>
    intro i hi a
    have h : nI n ≤ nI i := nI_le (by omega) (by omega)
    exact ⟨a, fun _ hp => br_t h hp, fun _ hp => br_t h hp⟩
  | succ e ih =>
    intro i hi a
    have h : ¬ nI n ≤ nI i := nI_ge (by omega) (by omega)
    have hv : vp_in (nI i) 96 := vp_in_nI (by omega) (by decide)
    by_cases hC : d (nI i).toNatClampNeg = 0
    · obtain ⟨r, hX, hY⟩ := ih (i + 1) (by omega) (a + 1)
      exact ⟨r, fun post hp => br_f h ⟨hv, br_t hC (nm_e (nm_r (nI_1 i) (hX post hp)))⟩, fun post hp => br_f h ⟨hv, br_t hC (nm_e (nm_r (nI_1 i) (hY post hp)))⟩⟩
    · obtain ⟨r, hX, hY⟩ := ih (i + 1) (by omega) a
      exact ⟨r, fun post hp => br_f h ⟨hv, br_f hC (nm_r (nI_1 i) (hX post hp))⟩, fun post hp => br_f h ⟨hv, br_f hC (nm_r (nI_1 i) (hY post hp))⟩⟩
theorem jx_above5 (HX : jx_H n m xv cc V) {c : Nat} (hc : c < 3) {w : Int32} {Q : Nat → Bool} (hQ : Q = fun q => (pu_ck m d cc cl ch V) q && decide (w < V q c)) {post : Int32 → Prop} (hp : post (nI (pu_cn Q n))) : ∀ e i, i + e = n → wX_chosenAbove_5 post (nI c) w (nI n) fp (nI m) xv xp xt d cc cl ch (e + 1) (nI (pu_cn Q i)) (nI i) := by
  have hn := HX.1
  intro e
  induction e with
  | zero =>
    intro i hi
    have hi : i = n := by omega
    subst hi
    exact br_t (Int32.le_refl _) hp
  | succ e ih =>
    intro i hi
    have h : ¬ nI n ≤ nI i := nI_ge (by omega) (by omega)
    have hr : i < 96 := by omega
    have ih := ih (i + 1) (by omega)
    refine br_f h (jx_ck HX (by omega) ?_)
    cases hC : (pu_ck m d cc cl ch V) i with
    | false =>
      rw [pu_cn_f (by simp [hQ, hC])] at ih
      exact br_t rfl (nm_r (nI_1 i) ih)
    | true =>
      refine br_f (by decide) ⟨jx_i hr hc, ?_⟩
      rw [jx_v HX hr hc]
      by_cases hw : V i c ≤ w
      · rw [pu_cn_f (by simp [hQ, hC, Int32.not_lt.mpr hw])] at ih
        exact br_t hw (nm_r (nI_1 i) ih)
      · rw [pu_cn_t (by simp [hQ, hC, Int32.not_le.mp hw])] at ih
        exact br_f hw (nm_r (nI_1 _) (nm_r (nI_1 i) ih))
theorem jx_above (HX : jx_H n m xv cc V) {c : Nat} (hc : c < 3) {w : Int32} {post : Int32 → Prop} (hp : post (nI (pu_cn (fun q => (pu_ck m d cc cl ch V) q && decide (w < V q c)) n))) : wpX_chosenAbove post (nI n, fp, nI m, xv, xp, xt, d, cc, cl, ch) (nI c) w :=
  ⟨n + 1, jx_above5 HX hc rfl hp n 0 (by omega)⟩
theorem jx_with6 (HX : jx_H n m xv cc V) {c : Nat} (hc : c < 3) {w : Int32} {en : Nat} (hen : en ≤ 96) {Q : Nat → Bool} (hQ : Q = fun q => (pu_ck m d cc cl ch V) q && decide (V q c = w)) {post : Int32 → Prop} (hp : post (nI (pu_cn Q en))) : ∀ e i, i + e = en → wX_chosenWith_6 post (nI c) w (nI en) (nI n) fp (nI m) xv xp xt d cc cl ch (e + 1) (nI (pu_cn Q i)) (nI i) := by
  intro e
  induction e with
  | zero =>
    intro i hi
    have hi : i = en := by omega
    subst hi
    exact br_t (Int32.le_refl _) hp
  | succ e ih =>
    intro i hi
    have h : ¬ nI en ≤ nI i := nI_ge (by omega) (by omega)
    have hr : i < 96 := by omega
    have ih := ih (i + 1) (by omega)
    refine br_f h (jx_ck HX (by omega) ?_)
    cases hC : (pu_ck m d cc cl ch V) i with
    | false =>
      rw [pu_cn_f (by simp [hQ, hC])] at ih
      exact br_t rfl (nm_r (nI_1 i) ih)
    | true =>
      refine br_f (by decide) ⟨jx_i hr hc, ?_⟩
      rw [jx_v HX hr hc]
      by_cases hw : V i c = w
      · rw [pu_cn_t (by simp [hQ, hC, hw])] at ih
        exact br_t hw (nm_r (nI_1 _) (nm_r (nI_1 i) ih))
      · rw [pu_cn_f (by simp [hQ, hC, hw])] at ih
        exact br_f hw (nm_r (nI_1 i) ih)
theorem jx_with (HX : jx_H n m xv cc V) {c : Nat} (hc : c < 3) {w : Int32} {en : Nat} (hen : en ≤ 96) {post : Int32 → Prop} (hp : post (nI (pu_cn (fun q => (pu_ck m d cc cl ch V) q && decide (V q c = w)) en))) : wpX_chosenWith post (nI n, fp, nI m, xv, xp, xt, d, cc, cl, ch) (nI c) w (nI en) :=
  ⟨en + 1, jx_with6 HX hc hen rfl hp en 0 (by omega)⟩
theorem jy_like5 (HY : jy_H n m yv cc V) {c : Nat} (hc : c < 3) {s : Nat} (hs : s < 96) {Q : Nat → Bool} (hQ : Q = fun q => (pu_ck m d cc cl ch V) q && decide (V q c = V s c)) {post : Int32 → Prop} (hp : post (nI (pu_cn Q n))) : ∀ e i, i + e = n → wY_like_5 post (nI c) (nI s) (nI n) fp (nI m) yv yp yt d cc cl ch (e + 1) (nI (pu_cn Q i)) (nI i) := by
  have hn := HY.1
  intro e
  induction e with
  | zero =>
    intro i hi
    have hi : i = n := by omega
    subst hi
    exact br_t (Int32.le_refl _) hp
  | succ e ih =>
    intro i hi
    have h : ¬ nI n ≤ nI i := nI_ge (by omega) (by omega)
    have hr : i < 96 := by omega
    have ih := ih (i + 1) (by omega)
    refine br_f h (jy_ck HY (by omega) ?_)
    cases hC : (pu_ck m d cc cl ch V) i with
    | false =>
      rw [pu_cn_f (by simp [hQ, hC])] at ih
      exact br_t rfl (nm_r (nI_1 i) ih)
    | true =>
      refine br_f (by decide) ⟨jy_i hr hc, jy_i hs hc, ?_⟩
      rw [jy_v HY hr hc, jy_v HY hs hc]
      by_cases hw : V i c = V s c
      · rw [pu_cn_t (by simp [hQ, hC, hw])] at ih
        exact br_t hw (nm_r (nI_1 _) (nm_r (nI_1 i) ih))
      · rw [pu_cn_f (by simp [hQ, hC, hw])] at ih
        exact br_f hw (nm_r (nI_1 i) ih)
theorem jy_like (HY : jy_H n m yv cc V) {c : Nat} (hc : c < 3) {s : Nat} (hs : s < 96) {post : Int32 → Prop} (hp : post (nI (pu_cn (fun q => (pu_ck m d cc cl ch V) q && decide (V q c = V s c)) n))) : wpY_like post (nI n, fp, nI m, yv, yp, yt, d, cc, cl, ch) (nI c) (nI s) :=
  ⟨n + 1, jy_like5 HY hc hs rfl hp n 0 (by omega)⟩
theorem jy_rank17 (HY : jy_H n m yv cc V) {c : Nat} (hc : c < 3) {s : Nat} (hs : s < 96) {Q : Nat → Bool} (hQ : Q = fun q => (pu_ck m d cc cl ch V) q && (decide (V s c < V q c) || (decide (V q c = V s c) && decide (q < s)))) {post : Int32 → Prop} (hp : post (nI (pu_cn Q n))) : ∀ e i, i + e = n → wY_rank_17 post (nI c) (nI s) (V s c) (nI n) fp (nI m) yv yp yt d cc cl ch (e + 1) (nI (pu_cn Q i)) (nI i) := by
  have hn := HY.1
  intro e
  induction e with
  | zero =>
    intro i hi
    have hi : i = n := by omega
    subst hi
    exact br_t (Int32.le_refl _) hp
  | succ e ih =>
    intro i hi
    have h : ¬ nI n ≤ nI i := nI_ge (by omega) (by omega)
    have hr : i < 96 := by omega
    have ih := ih (i + 1) (by omega)
    refine br_f h ⟨jy_i hr hc, nm_r (jy_v HY hr hc) (jy_ck HY (by omega) ?_)⟩
    cases hC : (pu_ck m d cc cl ch V) i with
    | false =>
      rw [pu_cn_f (by simp [hQ, hC])] at ih
      exact br_t rfl (nm_r (nI_1 i) ih)
    | true =>
      refine br_f (by decide) ?_
      by_cases hw : V s c < V i c
      · rw [pu_cn_t (by simp [hQ, hC, hw])] at ih
        exact br_t hw (nm_r (nI_1 _) (nm_r (nI_1 i) ih))
      · refine br_f hw ?_
        by_cases hv : V i c = V s c
        · refine br_t hv ?_
          by_cases hq : i < s
          · rw [pu_cn_t (by simp [hQ, hC, hv, hq])] at ih
            exact br_f (nI_ge hq (by omega)) (nm_r (nI_1 _) (nm_r (nI_1 i) ih))
          · rw [pu_cn_f (by rw [hQ]; simp [hC, hv, hq])] at ih
            exact br_t (nI_le (by omega) (by omega)) (nm_r (nI_1 i) ih)
        · rw [pu_cn_f (by rw [hQ]; simp only [decide_eq_false hw, decide_eq_false hv]; simp)] at ih
          exact br_f hv (nm_r (nI_1 i) ih)
theorem jy_rank (HY : jy_H n m yv cc V) {c : Nat} (hc : c < 3) {s : Nat} (hs : s < 96) {post : Int32 → Prop} (hp : post (nI (pu_cn (fun q => (pu_ck m d cc cl ch V) q && (decide (V s c < V q c) || (decide (V q c = V s c) && decide (q < s)))) n))) : wpY_rank post (nI n, fp, nI m, yv, yp, yt, d, cc, cl, ch) (nI c) (nI s) :=
  ⟨jy_i hs hc, nm_r (jy_v HY hs hc) ⟨n + 1, jy_rank17 HY hc hs rfl hp n 0 (by omega)⟩⟩
end
section
/-! ranked, different, commonest -/
variable {n m : Nat} {fp : Int32} {xv xp xt yv yp yt d cc cl ch : Nat → Int32} {V P : Nat → Nat → Int32}
/-- X's test of ranked at row r: the place k falls into the stretch of its value -/
def rk_X (C : Nat → Bool) (w : Nat → Int32) (n : Nat) (k : Int32) (r : Nat) : Prop :=
  C r = true ∧ ¬ k < nI (pu_cn (fun q => C q && decide (w r < w q)) n) ∧ ¬ nI (pu_cn (fun q => C q && decide (w r < w q)) n) + nI (pu_cn (fun q => C q && decide (w q = w r)) n) ≤ k
def rk_Y (C : Nat → Bool) (w : Nat → Int32) (n : Nat) (k : Int32) (s : Nat) : Prop :=
  C s = true ∧ nI (pu_cn (fun q => C q && (decide (w s < w q) || (decide (w q = w s) && decide (q < s)))) n) = k
theorem rk_cut (Q : Nat → Bool) (s : Nat) : ∀ n, s ≤ n → pu_cn (fun q => Q q && decide (q < s)) n = pu_cn Q s := by
  have base : ∀ i, i ≤ s → pu_cn (fun q => Q q && decide (q < s)) i = pu_cn Q i := by
    intro i
    induction i with
    | zero => intro _; rfl
    | succ i ih =>
      intro h
      have hi : i < s := h
      show pu_cn _ i + _ = pu_cn _ i + _
      rw [ih (by omega)]
      simp [hi]
  intro n h
  induction n with
  | zero => rw [show s = 0 by omega]
            rfl
  | succ n ih =>
    by_cases hs : s ≤ n
    · rw [pu_cn_f (by simp; intro _; omega), ih hs]
    · rw [base (n + 1) (by omega), show s = n + 1 by omega]
/-- rank = how many above + how many equal ahead -/
theorem rk_split (C : Nat → Bool) (w : Nat → Int32) {n s : Nat} (hs : s < n) : pu_cn (fun q => C q && (decide (w s < w q) || (decide (w q = w s) && decide (q < s)))) n = pu_cn (fun q => C q && decide (w s < w q)) n + pu_cn (fun q => C q && decide (w q = w s)) s := by
  rw [← rk_cut (fun q => C q && decide (w q = w s)) s n (by omega)]
  refine pu_cn_add n (fun i _ => ?_) (fun i _ => ?_)
  · cases C i <;> simp
  · intro ⟨h1, h2⟩
    simp only [Bool.and_eq_true, decide_eq_true_eq] at h1 h2
    rw [h2.1.2] at h1
    exact Int32.lt_irrefl h1.2
theorem rk_num {a b : Nat} {k : Int32} (ha : a ≤ 96) (hb : b ≤ 96) (h1 : ¬ k < nI a) (h2 : ¬ nI a + nI b ≤ k) : ∃ t, k = nI t ∧ a ≤ t ∧ t < a + b ∧ t < 200 := by
  have h0 : ¬ k < 0 := by
    intro h
    apply h1
    exact Int32.lt_of_lt_of_le h (nI_pos' (by omega))
  obtain ⟨t, ht, rfl⟩ := nI_of h0
  rw [nI_ltI ht (by omega)] at h1
  rw [nI_add, nI_leI (by omega) ht] at h2
  exact ⟨t, rfl, by omega, by omega, by omega⟩
theorem rk_YX {C : Nat → Bool} {w : Nat → Int32} {n : Nat} {k : Int32} {s : Nat} (hn : n ≤ 96) (hs : s < n) (h : rk_Y C w n k s) : rk_X C w n k s := by
  obtain ⟨hC, e⟩ := h
  rw [rk_split C w hs] at e
  have l1 : pu_cn (fun q => C q && decide (w q = w s)) s < pu_cn (fun q => C q && decide (w q = w s)) n := pu_cn_lt hs (by simp [hC])
  have l2 := pu_cn_le (fun q => C q && decide (w q = w s)) n
  have l3 := pu_cn_le (fun q => C q && decide (w s < w q)) n
  refine ⟨hC, ?_, ?_⟩
  · rw [← e]
    exact nI_nlt (by omega) (by omega)
  · rw [← e, nI_add]
    exact nI_ge (by omega) (by omega)
theorem rk_XY {C : Nat → Bool} {w : Nat → Int32} {n : Nat} {k : Int32} {r : Nat} (hn : n ≤ 96) (h : rk_X C w n k r) : ∃ s, s < n ∧ w s = w r ∧ rk_Y C w n k s := by
  obtain ⟨hC, h1, h2⟩ := h
  have l2 := pu_cn_le (fun q => C q && decide (w q = w r)) n
  have l3 := pu_cn_le (fun q => C q && decide (w r < w q)) n
  obtain ⟨t, rfl, t1, t2, _⟩ := rk_num (by omega) (by omega) h1 h2
  obtain ⟨s, hs, hP, hc⟩ := pu_cn_hit (P := fun q => C q && decide (w q = w r)) n (t - pu_cn (fun q => C q && decide (w r < w q)) n) (by omega)
  simp only [Bool.and_eq_true, decide_eq_true_eq] at hP
  refine ⟨s, hs, hP.2, hP.1, ?_⟩
  rw [rk_split C w hs, hP.2, hc]
  exact congrArg nI (by omega)
theorem rk_XX {C : Nat → Bool} {w : Nat → Int32} {n : Nat} {k : Int32} {r s : Nat} (hn : n ≤ 96) (hr : rk_X C w n k r) (hs : rk_X C w n k s) : ¬ w r < w s := by
  intro hw
  obtain ⟨_, h1, h2⟩ := hr
  obtain ⟨_, g1, g2⟩ := hs
  have l2 := pu_cn_le (fun q => C q && decide (w q = w r)) n
  have l3 := pu_cn_le (fun q => C q && decide (w r < w q)) n
  have l4 := pu_cn_le (fun q => C q && decide (w q = w s)) n
  have l5 := pu_cn_le (fun q => C q && decide (w s < w q)) n
  obtain ⟨t, rfl, t1, t2, t3⟩ := rk_num (by omega) (by omega) h1 h2
  obtain ⟨t', e, t1', t2', t3'⟩ := rk_num (by omega) (by omega) g1 g2
  rw [nI_eq (by omega) (by omega)] at e
  subst e
  have := pu_cn_add (R := fun q => C q && decide (w s ≤ w q)) (P := fun q => C q && decide (w s < w q)) (Q := fun q => C q && decide (w q = w s)) n (fun i _ => by
    cases C i
    · rfl
    · simp only [Bool.true_and]
      by_cases x1 : w s < w i
      · simp [x1, Int32.le_of_lt x1]
      · by_cases x2 : w i = w s
        · simp [x2]
        · have : ¬ w s ≤ w i := fun h => by
            rcases Int32.lt_or_eq_of_le h with h | h
            · exact x1 h
            · exact x2 h.symm
          simp [this, x1, x2]) (fun i _ ⟨a, b⟩ => by
    simp only [Bool.and_eq_true, decide_eq_true_eq] at a b
    rw [b.2] at a
    exact Int32.lt_irrefl a.2)
  have h5 := pu_cn_sub (P := fun q => C q && decide (w s ≤ w q)) (Q := fun q => C q && decide (w r < w q)) n (fun i _ a => by
    simp only [Bool.and_eq_true, decide_eq_true_eq] at a ⊢
    exact ⟨a.1, Int32.lt_of_lt_of_le hw a.2⟩)
  omega
/-- what ranked answers -/
def rk_R (C : Nat → Bool) (w : Nat → Int32) (n : Nat) (k : Int32) (a : Int32) : Prop :=
  (∃ r, r < n ∧ rk_X C w n k r ∧ a = w r) ∨ ((∀ r, r < n → ¬ rk_X C w n k r) ∧ a = -1000000003)
theorem rk_Ru {C : Nat → Bool} {w : Nat → Int32} {n : Nat} {k a b : Int32} (hn : n ≤ 96) (ha : rk_R C w n k a) (hb : rk_R C w n k b) : b = a := by
  rcases ha with ⟨r, hr, hx, rfl⟩ | ⟨h1, rfl⟩
  · rcases hb with ⟨s, hs, hy, rfl⟩ | ⟨h2, rfl⟩
    · have a1 := rk_XX hn hx hy
      have a2 := rk_XX hn hy hx
      exact Int32.le_antisymm (Int32.not_lt.mp a1) (Int32.not_lt.mp a2)
    · exact absurd hx (h2 r hr)
  · rcases hb with ⟨s, hs, hy, rfl⟩ | ⟨h2, rfl⟩
    · exact absurd hy (h1 s hs)
    · rfl
theorem jx_ranked13 (HX : jx_H n m xv cc V) {c : Nat} (hc : c < 3) {k : Int32} {post : Int32 → Prop} (hp : ∀ a, rk_R (pu_ck m d cc cl ch V) (fun q => V q c) n k a → post a) : ∀ e i, i + e = n → (∀ r, r < i → ¬ rk_X (pu_ck m d cc cl ch V) (fun q => V q c) n k r) → wX_ranked_13 post (nI c) k (nI n) fp (nI m) xv xp xt d cc cl ch (e + 1) (nI i) := by
  have hn := HX.1
  intro e
  induction e with
  | zero =>
    intro i hi h
    have hi : i = n := by omega
    subst hi
    exact br_t (Int32.le_refl _) (hp _ (Or.inr ⟨h, rfl⟩))
  | succ e ih =>
    intro i hi hb
    have h : ¬ nI n ≤ nI i := nI_ge (by omega) (by omega)
    have hr : i < 96 := by omega
    have ih : ¬ rk_X (pu_ck m d cc cl ch V) (fun q => V q c) n k i → _ := fun z => ih (i + 1) (by omega) (fun r hr => by
      by_cases q : r = i
      · rw [q]; exact z
      · exact hb r (by omega))
    refine br_f h (jx_ck HX hr ?_)
    cases hC : (pu_ck m d cc cl ch V) i with
    | false => exact br_t rfl (nm_r (nI_1 i) (ih (fun z => by rw [z.1] at hC; cases hC)))
    | true =>
      refine br_f (by decide) ⟨jx_i hr hc, nm_r (jx_v HX hr hc) (jx_above HX hc (jx_with HX hc hn ?_))⟩
      refine br_c (fun z => nm_r (nI_1 i) (ih (fun q => q.2.1 z))) (fun z => br_c (fun y => nm_r (nI_1 i) (ih (fun q => q.2.2 y))) (fun y => hp _ (Or.inl ⟨i, by omega, ⟨hC, z, y⟩, rfl⟩)))
theorem jy_ranked13 (HY : jy_H n m yv cc V) {c : Nat} (hc : c < 3) {k : Int32} {post : Int32 → Prop} (hp : ∀ a, rk_R (pu_ck m d cc cl ch V) (fun q => V q c) n k a → post a) : ∀ e i, i + e = n → (∀ r, r < i → ¬ rk_Y (pu_ck m d cc cl ch V) (fun q => V q c) n k r) → wY_ranked_13 post (nI c) k (nI n) fp (nI m) yv yp yt d cc cl ch (e + 1) (nI i) := by
  have hn := HY.1
  intro e
  induction e with
  | zero =>
    intro i hi h
    have hi : i = n := by omega
    subst hi
    refine br_t (Int32.le_refl _) (hp _ (Or.inr ⟨fun r hr q => ?_, rfl⟩))
    obtain ⟨s, hs, _, hy⟩ := rk_XY hn q
    exact h s hs hy
  | succ e ih =>
    intro i hi hb
    have h : ¬ nI n ≤ nI i := nI_ge (by omega) (by omega)
    have hr : i < 96 := by omega
    have ih : ¬ rk_Y (pu_ck m d cc cl ch V) (fun q => V q c) n k i → _ := fun z => ih (i + 1) (by omega) (fun r hr => by
      by_cases q : r = i
      · rw [q]; exact z
      · exact hb r (by omega))
    refine br_f h (jy_ck HY (by omega) ?_)
    cases hC : (pu_ck m d cc cl ch V) i with
    | false => exact br_t rfl (nm_r (nI_1 i) (ih (fun z => by rw [z.1] at hC; cases hC)))
    | true =>
      refine br_f (by decide) (jy_rank HY hc hr ?_)
      refine br_c (fun z => ⟨jy_i hr hc, ?_⟩) (fun z => nm_r (nI_1 i) (ih (fun q => z q.2)))
      rw [jy_v HY hr hc]
      exact hp _ (Or.inl ⟨i, by omega, rk_YX hn (by omega) ⟨hC, z⟩, rfl⟩)
theorem pu_all_iff (f : Nat → Bool) : ∀ e j, pu_all f e j = true ↔ ∀ i, j ≤ i → i < j + e → f i = true
  | 0, j => ⟨fun _ i h1 h2 => by omega, fun _ => rfl⟩
  | e + 1, j => by
    have ih := pu_all_iff f e (j + 1)
    unfold pu_all
    rw [Bool.and_eq_true, ih]
    constructor
    · intro ⟨h1, h2⟩ i a b
      by_cases q : i = j
      · rw [q]; exact h1
      · exact h2 i (by omega) (by omega)
    · intro h
      exact ⟨h j (by omega) (by omega), fun i a b => h i (by omega) (by omega)⟩
theorem jy_diff33 (HY : jy_H n m yv cc V) {c : Nat} (hc : c < 3) {s : Nat} (hs : s < n) {a : Int32} {post : Int32 → Prop} {J : Int32 → Int32 → Prop} : ∀ e q b, q + e = s → J (a + pb_I (b && pu_all (fun q => !((pu_ck m d cc cl ch V) q && decide (V q c = V s c))) e q)) (nI (s + 1)) → wY_different_33 post J (nI c) a (nI s) (nI n) fp (nI m) yv yp yt d cc cl ch (e + 1) (pb_I b) (nI q) := by
  have hn := HY.1
  have h90 : ∀ b, J (a + pb_I b) (nI (s + 1)) → wY_different_90 post J (nI c) a (nI s) (pb_I b) (nI n) fp (nI m) yv yp yt d cc cl ch := by
    intro b h
    cases b with
    | false => rw [show a + pb_I false = a from Int32.add_zero a] at h; exact br_t rfl (nm_r (nI_1 s) h)
    | true => exact br_f (by decide) (nm_e (nm_r (nI_1 s) h))
  intro e
  induction e with
  | zero =>
    intro q b hq h
    rw [pu_all, Bool.and_true] at h
    exact br_t (nI_le (by omega) (by omega)) (h90 b h)
  | succ e ih =>
    intro q b hq h
    refine br_f (nI_ge (by omega) (by omega)) ?_
    cases b with
    | false => rw [Bool.false_and] at h; exact br_t rfl (h90 false h)
    | true =>
      unfold pu_all at h
      rw [Bool.true_and] at h
      refine br_f (by decide) (jy_ck HY (by omega) ?_)
      cases hC : (pu_ck m d cc cl ch V) q with
      | false =>
        rw [hC] at h
        exact br_t rfl (nm_r (nI_1 q) (ih (q + 1) true (by omega) h))
      | true =>
        refine br_f (by decide) ⟨jy_i (by omega) hc, jy_i (by omega) hc, ?_⟩
        rw [jy_v HY (by omega) hc, jy_v HY (by omega) hc]
        rw [hC] at h
        by_cases hv : V q c = V s c
        · rw [decide_eq_true hv] at h
          exact br_t hv (nm_r (nI_1 q) (ih (q + 1) false (by omega) h))
        · rw [decide_eq_false hv] at h
          exact br_f hv (nm_r (nI_1 q) (ih (q + 1) true (by omega) h))
theorem jb_diff (HX : jx_H n m xv cc V) (HY : jy_H n m yv cc V) {c : Nat} (hc : c < 3) : ∀ e i, i + e = n → ∀ a : Int32, ∃ r : Int32, (∀ post : Int32 → Prop, post r → wX_different_15 post (nI c) (nI n) fp (nI m) xv xp xt d cc cl ch (e + 1) a (nI i)) ∧ (∀ post : Int32 → Prop, post r → wY_different_15 post (nI c) (nI n) fp (nI m) yv yp yt d cc cl ch (e + 1) a (nI i)) := by
  have hn := HX.1
  intro e
  induction e with
  | zero =>
    intro i hi a
    have h : nI n ≤ nI i := nI_le (by omega) (by omega)
    exact ⟨a, fun _ hp => br_t h hp, fun _ hp => br_t h hp⟩
  | succ e ih =>
    intro i hi a
    have h : ¬ nI n ≤ nI i := nI_ge (by omega) (by omega)
    have hr : i < 96 := by omega
    obtain ⟨r, hX, hY⟩ := ih (i + 1) (by omega) (a + pb_I ((pu_ck m d cc cl ch V) i && pu_all (fun q => !((pu_ck m d cc cl ch V) q && decide (V q c = V i c))) i 0))
    refine ⟨r, fun post hp => br_f h (jx_ck HX (by omega) ?_), fun post hp => br_f h (jy_ck HY (by omega) ⟨i + 1, jy_diff33 HY hc (by omega) i 0 _ (by omega) (hY post hp)⟩)⟩
    have hX := hX post hp
    cases hC : (pu_ck m d cc cl ch V) i with
    | false =>
      rw [hC, Bool.false_and, show a + pb_I false = a from Int32.add_zero a] at hX
      exact br_t rfl (nm_r (nI_1 i) hX)
    | true =>
      rw [hC, Bool.true_and] at hX
      refine br_f (by decide) ⟨jx_i hr hc, ?_⟩
      rw [jx_v HX hr hc]
      refine jx_with HX hc (by omega) ?_
      have hcn := pu_cn_0 (P := fun q => (pu_ck m d cc cl ch V) q && decide (V q c = V i c)) i
      have hle := pu_cn_le (fun q => (pu_ck m d cc cl ch V) q && decide (V q c = V i c)) i
      by_cases hz : pu_cn (fun q => (pu_ck m d cc cl ch V) q && decide (V q c = V i c)) i = 0
      · have hall : pu_all (fun q => !((pu_ck m d cc cl ch V) q && decide (V q c = V i c))) i 0 = true := (pu_all_iff _ i 0).mpr (fun j _ hj => by
          have := hcn.mp hz j (by omega)
          rw [this]
          rfl)
        rw [hall] at hX
        rw [hz]
        exact br_t rfl (nm_e (nm_r (nI_1 i) hX))
      · have hall : pu_all (fun q => !((pu_ck m d cc cl ch V) q && decide (V q c = V i c))) i 0 = false := by
          cases q : pu_all (fun q => !((pu_ck m d cc cl ch V) q && decide (V q c = V i c))) i 0 with
          | false => rfl
          | true =>
            exfalso
            apply hz
            apply hcn.mpr
            intro j hj
            have := (pu_all_iff _ i 0).mp q j (by omega) (by omega)
            exact Bool.not_eq_true' _ |>.mp this
        rw [hall, show a + pb_I false = a from Int32.add_zero a] at hX
        exact br_f (nI_ne0 (by omega) (by omega)) (nm_r (nI_1 i) hX)
/-- the states of commonest: the row that is best so far, if any -/
def cm_bx (V : Nat → Nat → Int32) (c : Nat) : Option Nat → Int32
  | none => -1000000003
  | some b => V b c
def cm_tx (T : Int32 → Nat) (V : Nat → Nat → Int32) (c : Nat) : Option Nat → Int32
  | none => 0
  | some b => nI (T (V b c))
def cm_by : Option Nat → Int32
  | none => -1
  | some b => nI b
theorem jy_c104 {c s : Nat} {a : Int32} {post : Int32 → Prop} {J : Int32 → Int32 → Prop} (h : J (nI s) (nI (s + 1))) : wY_commonest_104 post J (nI c) a (nI s) (nI n) fp (nI m) yv yp yt d cc cl ch :=
  br_f (by decide) (nm_r (nI_1 s) h)
theorem jy_c108 {c s : Nat} {a : Int32} {post : Int32 → Prop} {J : Int32 → Int32 → Prop} (h : J a (nI (s + 1))) : wY_commonest_108 post J (nI c) a (nI s) (nI n) fp (nI m) yv yp yt d cc cl ch :=
  br_t rfl (nm_r (nI_1 s) h)
theorem jb_common (HX : jx_H n m xv cc V) (HY : jy_H n m yv cc V) {c : Nat} (hc : c < 3) {T : Int32 → Nat} (hT : T = fun v => pu_cn (fun q => (pu_ck m d cc cl ch V) q && decide (V q c = v)) n) : ∀ e i, i + e = n → ∀ o : Option Nat, (∀ b, o = some b → b < n) → ∃ r : Int32, (∀ post : Int32 → Prop, post r → wX_commonest_19 post (nI c) (nI n) fp (nI m) xv xp xt d cc cl ch (e + 1) (cm_bx V c o) (cm_tx T V c o) (nI i)) ∧ (∀ post : Int32 → Prop, post r → wY_commonest_15 post (nI c) (nI n) fp (nI m) yv yp yt d cc cl ch (e + 1) (cm_by o) (nI i)) := by
  have hn := HX.1
  intro e
  induction e with
  | zero =>
    intro i hi o ho
    have h : nI n ≤ nI i := nI_le (by omega) (by omega)
    refine ⟨cm_bx V c o, fun _ hp => br_t h hp, fun _ hp => br_t h ?_⟩
    cases o with
    | none => exact br_f (by decide) hp
    | some b =>
      have hb := ho b rfl
      refine br_t (nI_pos' (by omega)) ⟨jy_i (by omega) hc, ?_⟩
      rw [cm_by, jy_v HY (by omega) hc]
      exact hp
  | succ e ih =>
    intro i hi o ho
    have h : ¬ nI n ≤ nI i := nI_ge (by omega) (by omega)
    have hr : i < 96 := by omega
    cases hC : (pu_ck m d cc cl ch V) i with
    | false =>
      obtain ⟨r, hX, hY⟩ := ih (i + 1) (by omega) o ho
      refine ⟨r, fun post hp => br_f h (jx_ck HX (by omega) ?_), fun post hp => br_f h (jy_ck HY (by omega) ?_)⟩
      · rw [hC]; exact br_t rfl (nm_r (nI_1 i) (hX post hp))
      · rw [hC]; exact br_t rfl (nm_r (nI_1 i) (hY post hp))
    | true =>
      have hTi : 0 < T (V i c) := by
        rw [hT]
        exact Nat.lt_of_le_of_lt (Nat.zero_le _) (pu_cn_lt (i := i) (by omega) (by simp [hC]))
      have hTl : ∀ v, T v ≤ n := fun v => by rw [hT]; exact pu_cn_le _ n
      have hTi2 := hTl (V i c)
      have new : ∃ r : Int32, (∀ post : Int32 → Prop, post r → wX_commonest_19 post (nI c) (nI n) fp (nI m) xv xp xt d cc cl ch (e + 1) (V i c) (nI (T (V i c))) (nI (i + 1))) ∧ (∀ post : Int32 → Prop, post r → wY_commonest_15 post (nI c) (nI n) fp (nI m) yv yp yt d cc cl ch (e + 1) (nI i) (nI (i + 1))) := ih (i + 1) (by omega) (some i) (fun b hb => by cases hb; omega)
      have ew : ∀ v, pu_cn (fun q => (pu_ck m d cc cl ch V) q && decide (V q c = v)) n = T v := fun v => by rw [hT]
      cases o with
      | none =>
        obtain ⟨r, hX, hY⟩ := new
        refine ⟨r, fun post hp => br_f h (jx_ck HX (by omega) ?_), fun post hp => br_f h (jy_ck HY (by omega) ?_)⟩
        · rw [hC]
          refine br_f (by decide) ⟨jx_i hr hc, nm_r (jx_v HX hr hc) (jx_with HX hc hn ?_)⟩
          rw [ew]
          exact br_t (nI_lt (a := 0) hTi (by omega)) (nm_r (nI_1 i) (hX post hp))
        · rw [hC]
          exact br_f (by decide) ⟨jy_i hr hc, nm_r (jy_v HY hr hc) (br_f (by decide) (br_t (by decide) (jy_c104 (hY post hp))))⟩
      | some b =>
        have hb := ho b rfl
        have hb2 : b < 96 := by omega
        have old := ih (i + 1) (by omega) (some b) ho
        have hTb := hTl (V b c)
        have hb0 : (0 : Int32) ≤ nI b := nI_pos' (by omega)
        have hb1 : ¬ nI b < 0 := nI_pos (by omega)
        have toX : ∀ post : Int32 → Prop, ((nI (T (V b c)) < nI (T (V i c)) → wX_commonest_19 post (nI c) (nI n) fp (nI m) xv xp xt d cc cl ch (e + 1) (V i c) (nI (T (V i c))) (nI (i + 1))) ∧ (¬ nI (T (V b c)) < nI (T (V i c)) → (nI (T (V i c)) = nI (T (V b c)) → (V b c ≤ V i c → wX_commonest_19 post (nI c) (nI n) fp (nI m) xv xp xt d cc cl ch (e + 1) (V b c) (nI (T (V b c))) (nI (i + 1))) ∧ (¬ V b c ≤ V i c → wX_commonest_19 post (nI c) (nI n) fp (nI m) xv xp xt d cc cl ch (e + 1) (V i c) (nI (T (V i c))) (nI (i + 1)))) ∧ (¬ nI (T (V i c)) = nI (T (V b c)) → wX_commonest_19 post (nI c) (nI n) fp (nI m) xv xp xt d cc cl ch (e + 1) (V b c) (nI (T (V b c))) (nI (i + 1))))) → wX_commonest_19 post (nI c) (nI n) fp (nI m) xv xp xt d cc cl ch (e + 1 + 1) (V b c) (nI (T (V b c))) (nI i) := by
          intro post hh
          refine br_f h (jx_ck HX (by omega) ?_)
          rw [hC]
          refine br_f (by decide) ⟨jx_i hr hc, nm_r (jx_v HX hr hc) (jx_with HX hc hn ?_)⟩
          rw [ew]
          refine br_c (fun z => nm_r (nI_1 i) (hh.1 z)) (fun z => br_c (fun y => br_c (fun x => nm_r (nI_1 i) (((hh.2 z).1 y).1 x)) (fun x => nm_r (nI_1 i) (((hh.2 z).1 y).2 x))) (fun y => nm_r (nI_1 i) ((hh.2 z).2 y)))
        have toY : ∀ post : Int32 → Prop, ((nI (T (V b c)) < nI (T (V i c)) → wY_commonest_15 post (nI c) (nI n) fp (nI m) yv yp yt d cc cl ch (e + 1) (nI i) (nI (i + 1))) ∧ (¬ nI (T (V b c)) < nI (T (V i c)) → (nI (T (V i c)) = nI (T (V b c)) → (V b c ≤ V i c → wY_commonest_15 post (nI c) (nI n) fp (nI m) yv yp yt d cc cl ch (e + 1) (nI b) (nI (i + 1))) ∧ (¬ V b c ≤ V i c → wY_commonest_15 post (nI c) (nI n) fp (nI m) yv yp yt d cc cl ch (e + 1) (nI i) (nI (i + 1)))) ∧ (¬ nI (T (V i c)) = nI (T (V b c)) → wY_commonest_15 post (nI c) (nI n) fp (nI m) yv yp yt d cc cl ch (e + 1) (nI b) (nI (i + 1))))) → wY_commonest_15 post (nI c) (nI n) fp (nI m) yv yp yt d cc cl ch (e + 1 + 1) (nI b) (nI i) := by
          intro post hh
          refine br_f h (jy_ck HY (by omega) ?_)
          rw [hC]
          refine br_f (by decide) ⟨jy_i hr hc, nm_r (jy_v HY hr hc) (br_t hb0 ⟨jy_i hb2 hc, ?_⟩)⟩
          rw [jy_v HY hb2 hc]
          refine br_f hb1 (jy_like HY hc hr (jy_like HY hc hb2 ?_))
          rw [ew, ew]
          refine br_c (fun z => jy_c104 (hh.1 z)) (fun z => jy_like HY hc hr (jy_like HY hc hb2 ?_))
          rw [ew, ew]
          exact br_c (fun y => br_c (fun x => jy_c108 (((hh.2 z).1 y).1 x)) (fun x => jy_c104 (((hh.2 z).1 y).2 x))) (fun y => jy_c108 ((hh.2 z).2 y))
        by_cases z : nI (T (V b c)) < nI (T (V i c))
        · obtain ⟨r, hX, hY⟩ := new
          exact ⟨r, fun post hp => toX post (br_t z (hX post hp)), fun post hp => toY post (br_t z (hY post hp))⟩
        · by_cases y : nI (T (V i c)) = nI (T (V b c))
          · by_cases x : V b c ≤ V i c
            · obtain ⟨r, hX, hY⟩ := old
              exact ⟨r, fun post hp => toX post (br_f z (br_t y (br_t x (hX post hp)))), fun post hp => toY post (br_f z (br_t y (br_t x (hY post hp))))⟩
            · obtain ⟨r, hX, hY⟩ := new
              exact ⟨r, fun post hp => toX post (br_f z (br_t y (br_f x (hX post hp)))), fun post hp => toY post (br_f z (br_t y (br_f x (hY post hp))))⟩
          · obtain ⟨r, hX, hY⟩ := old
            exact ⟨r, fun post hp => toX post (br_f z (br_f y (hX post hp))), fun post hp => toY post (br_f z (br_f y (hY post hp)))⟩
end
section
/-! blocks: where the packed values lie; passed -/
variable {n m : Nat} {fp : Int32} {xv xp xt yv yp yt d cc cl ch : Nat → Int32} {V P : Nat → Nat → Int32}
theorem bx_i {b c i : Nat} (hb : b < 6) (hc : c < 3) (hi : i < 16) : vp_in (nI (c * 96 + b * 16) + nI i) 288 := by
  rw [nI_add]
  exact vp_in_nI (by omega) (by decide)
theorem bx_v (HX : jx_H n m xp cc P) {b c i : Nat} (hb : b < 6) (hc : c < 3) (hi : i < 16) : xp (nI (c * 96 + b * 16) + nI i).toNatClampNeg = P (16 * b + i) c := by
  rw [nI_add, nI_clamp (by omega), ← HX.2.2.2 (16 * b + i) c (by omega) hc]
  exact congrArg xp (by omega)
theorem by_v (HY : jy_H n m yp cc P) {b c i : Nat} (hb : b < 6) (hc : c < 3) (hi : i < 16) {post : Int32 → Prop} (h : post (P (16 * b + i) c)) : wpY_packedAt post (nI n, fp, nI m, yv, yp, yt, d, cc, cl, ch) (nI b) (nI c) (nI i) := by
  refine ⟨?_, ?_⟩
  · rw [ax_p]
    exact vp_in_nI (by omega) (by decide)
  · rw [ax_p, nI_clamp (by omega), show 48 * b + 3 * i + c = 3 * (16 * b + i) + c by omega, HY.2.2.2 (16 * b + i) c (by omega) hc]
    exact h
theorem bx_start {b c : Nat} {post : Int32 → Prop} (h : post (nI (c * 96 + b * 16))) : wpX_startOf post (nI n, fp, nI m, xv, xp, xt, d, cc, cl, ch) (nI b) (nI c) := by
  show post (nI c * 96 + nI b * 16)
  rw [ax_s]
  exact h
theorem by_bc (hn : n ≤ 96) {post : Int32 → Prop} (h : post (nI (n / 16))) : wpY_blockCount post (nI n, fp, nI m, yv, yp, yt, d, cc, cl, ch) := by
  refine ⟨ax_16, ?_⟩
  rw [ax_d hn]
  exact h
/-- condition j is met by none of the packed values of block b -/
def pu_z (cl ch cc : Nat → Int32) (P : Nat → Nat → Int32) (b j : Nat) : Bool := pu_all (fun i => !pu_met cl ch j (P (16 * b + i) (cc j).toNatClampNeg)) 16 0
theorem jx_met2 (HX : jx_H n m xp cc P) {b c j : Nat} (hb : b < 6) (hc : c < 3) (hj : j < 4) {post : Int32 → Prop} : ∀ e i, i + e = 16 → post (pb_I (!pu_all (fun i => !pu_met cl ch j (P (16 * b + i) c)) e i)) → wX_isMetByPacked_2 post (nI j) (nI (c * 96 + b * 16)) (nI n) fp (nI m) xv xp xt d cc cl ch (e + 1) (nI i) := by
  intro e
  induction e with
  | zero =>
    intro i hi h
    exact br_t (nI_le (a := 16) (by omega) (by omega)) h
  | succ e ih =>
    intro i hi h
    refine br_f (nI_ge (b := 16) (by omega) (by decide)) ⟨bx_i hb hc (by omega), ?_⟩
    rw [bx_v HX hb hc (by omega)]
    refine jx_within hj ?_
    unfold pu_all at h
    cases hq : pu_met cl ch j (P (16 * b + i) c) with
    | false => rw [hq] at h; exact br_t rfl (nm_r (nI_1 i) (ih (i + 1) (by omega) h))
    | true => rw [hq] at h; exact br_f (by decide) h
theorem jx_passed2 (HX : jx_H n m xp cc P) {b : Nat} (hb : b < 6) {post : Int32 → Prop} : ∀ e j, j + e = m → post (pb_I (!pu_all (fun j => !pu_z cl ch cc P b j) e j)) → wX_isPassed_2 post (nI b) (nI n) fp (nI m) xv xp xt d cc cl ch (e + 1) (nI j) := by
  have hm := HX.2.1
  intro e
  induction e with
  | zero =>
    intro j hj h
    exact br_t (nI_le (by omega) (by omega)) h
  | succ e ih =>
    intro j hj h
    obtain ⟨c, hc, ec⟩ := HX.2.2.1 j
    have e2 : (cc j).toNatClampNeg = c := by rw [ec]; exact nI_clamp (by omega)
    refine br_f (nI_ge (by omega) (by omega)) ⟨vp_in_nI (by omega) (by decide), ?_⟩
    rw [nI_clamp (n := j) (by omega), ec]
    refine bx_start ⟨17, jx_met2 HX hb hc (by omega) 16 0 (by omega) ?_⟩
    have hz : pu_z cl ch cc P b j = pu_all (fun i => !pu_met cl ch j (P (16 * b + i) c)) 16 0 := by unfold pu_z; rw [e2]
    unfold pu_all at h
    rw [hz] at h
    cases hq : pu_all (fun i => !pu_met cl ch j (P (16 * b + i) c)) 16 0 with
    | true => rw [hq] at h; exact br_t rfl h
    | false => rw [hq] at h; exact br_f (by decide) (nm_r (nI_1 j) (ih (j + 1) (by omega) h))
theorem jy_passed2 (HY : jy_H n m yp cc P) {b j : Nat} (hb : b < 6) (hj : j < 4) {post : Int32 → Prop} : ∀ e i, i + e = 16 → post (pb_I (pu_all (fun i => !pu_met cl ch j (P (16 * b + i) (cc j).toNatClampNeg)) e i)) → wY_isPassed_2 post (nI b) (nI j) (nI n) fp (nI m) yv yp yt d cc cl ch (e + 1) (nI i) := by
  obtain ⟨c, hc, ec⟩ := HY.2.2.1 j
  have e2 : (cc j).toNatClampNeg = c := by rw [ec]; exact nI_clamp (by omega)
  intro e
  induction e with
  | zero =>
    intro i hi h
    exact br_t (nI_le (a := 16) (by omega) (by omega)) h
  | succ e ih =>
    intro i hi h
    refine br_f (nI_ge (b := 16) (by omega) (by decide)) ⟨vp_in_nI hj (by decide), ?_⟩
    rw [nI_clamp (n := j) (by omega), ec]
    refine by_v HY hb hc (by omega) (jy_met hj ?_)
    unfold pu_all at h
    rw [e2] at h
    cases hq : pu_met cl ch j (P (16 * b + i) c) with
    | false => rw [hq] at h; rw [e2] at ih; exact br_t rfl (nm_r (nI_1 i) (ih (i + 1) (by omega) h))
    | true => rw [hq] at h; exact br_f (by decide) h
theorem jy_isPassed (HY : jy_H n m yp cc P) {b j : Nat} (hb : b < 6) (hj : j < 4) {post : Int32 → Prop} (h : post (pb_I (pu_z cl ch cc P b j))) : wpY_isPassed post (nI n, fp, nI m, yv, yp, yt, d, cc, cl, ch) (nI b) (nI j) :=
  ⟨17, jy_passed2 HY hb hj 16 0 (by omega) h⟩
theorem jy_passed17 (HY : jy_H n m yp cc P) {b : Nat} (hb : b < 6) {post : Int32 → Prop} {J : Int32 → Int32 → Prop} {a : Int32} : ∀ e j f, j + e = m → J (a + pb_I (f || !pu_all (fun j => !pu_z cl ch cc P b j) e j)) (nI (b + 1)) → wY_passed_17 post J a (nI b) (nI n) fp (nI m) yv yp yt d cc cl ch (e + 1) (pb_I f) (nI j) := by
  have hm := HY.2.1
  intro e
  induction e with
  | zero =>
    intro j f hj h
    refine br_t (nI_le (by omega) (by omega)) ?_
    cases f with
    | false => rw [show a + pb_I (false || !pu_all (fun j => !pu_z cl ch cc P b j) 0 j) = a from Int32.add_zero a] at h; exact br_t rfl (nm_r (nI_1 b) h)
    | true => exact br_f (by decide) (nm_e (nm_r (nI_1 b) h))
  | succ e ih =>
    intro j f hj h
    refine br_f (nI_ge (by omega) (by omega)) ?_
    cases f with
    | true => exact br_f (by decide) (nm_r (nI_1 j) (ih (j + 1) true (by omega) h))
    | false =>
      refine br_t rfl (jy_isPassed HY hb (by omega) ?_)
      rw [pu_all] at h
      cases hq : pu_z cl ch cc P b j with
      | true => rw [hq] at h; exact br_f (by decide) (nm_r (nI_1 j) (ih (j + 1) true (by omega) h))
      | false => rw [hq] at h; exact br_t rfl (nm_r (nI_1 j) (ih (j + 1) false (by omega) h))
theorem jb_passed (HX : jx_H n m xp cc P) (HY : jy_H n m yp cc P) : ∀ e b, b + e = n / 16 → ∀ a : Int32, ∃ r : Int32, (∀ post : Int32 → Prop, post r → wX_passed_4 post (nI n) fp (nI m) xv xp xt d cc cl ch (e + 1) a (nI b)) ∧ (∀ post : Int32 → Prop, post r → wY_passed_4 post (nI n) fp (nI m) yv yp yt d cc cl ch (e + 1) a (nI b)) := by
  have hn := HX.1
  intro e
  induction e with
  | zero =>
    intro b hb a
    have h : nI (n / 16) ≤ nI b := nI_le (by omega) (by omega)
    refine ⟨a, fun _ hp => ⟨ax_16, ?_⟩, fun _ hp => ⟨ax_16, ?_⟩⟩
    · rw [ax_d hn]
      exact br_t h hp
    · rw [ax_d hn]
      exact br_t h hp
  | succ e ih =>
    intro b hb a
    have h : ¬ nI (n / 16) ≤ nI b := nI_ge (by omega) (by omega)
    obtain ⟨r, hX, hY⟩ := ih (b + 1) (by omega) (a + pb_I (!pu_all (fun j => !pu_z cl ch cc P b j) m 0))
    refine ⟨r, fun post hp => ⟨ax_16, ?_⟩, fun post hp => ⟨ax_16, ?_⟩⟩
    rotate_left
    · rw [ax_d hn]
      exact br_f h ⟨m + 1, jy_passed17 HY (by omega) m 0 false (by omega) (hY post hp)⟩
    rw [ax_d hn]
    refine br_f h ⟨m + 1, jx_passed2 HX (by omega) m 0 (by omega) ?_⟩
    have hX := hX post hp
    cases hq : pu_all (fun j => !pu_z cl ch cc P b j) m 0 with
    | true =>
      rw [hq, show a + pb_I (!true) = a from Int32.add_zero a] at hX
      exact br_t rfl (nm_r (nI_1 b) hX)
    | false =>
      rw [hq] at hX
      exact br_f (by decide) (nm_e (nm_r (nI_1 b) hX))
end
section
/-! the width of a span; stretches; the different values of a block -/
variable {n m : Nat} {fp : Int32} {xv xp xt yv yp yt d cc cl ch : Nat → Int32} {V P : Nat → Nat → Int32}
theorem wd_lt {s w : Nat} (hs : s < 2 ^ 63) (hw : w < 63) : lN s < (1 : Int64) <<< ((nI w).toInt64 &&& 63) ↔ s < 2 ^ w := by
  have e : (1 : Int64) <<< ((nI w).toInt64 &&& 63) = lN (2 ^ w) := by
    have := wb_shl 1 (k := w) (by omega)
    rw [Nat.one_mul] at this
    exact this
  have : 2 ^ w < 2 ^ 63 := Nat.pow_lt_pow_right (by decide) hw
  rw [e, pk_lLT hs this]
theorem wd_both {s : Nat} (hs : s < 2147483648) : ∀ e w, w + e = 31 → ∃ t, t ≤ 31 ∧ (∀ post : Int32 → Prop, post (nI t) → wX_widthOf_2 post (lN s) (nI n) fp (nI m) xv xp xt d cc cl ch (e + 1) (nI w)) ∧ (∀ post : Int32 → Prop, post (nI t) → wY_width_2 post (lN s) (nI n) fp (nI m) yv yp yt d cc cl ch (e + 1) (nI w)) := by
  intro e
  induction e with
  | zero =>
    intro w hw
    have h1 : ¬ 31 < nI w := nI_nlt (a := 31) (by omega) (by decide)
    have h2 : lN s < (1 : Int64) <<< ((nI w).toInt64 &&& 63) := (wd_lt (by omega) (by omega)).mpr (by rw [show w = 31 by omega]; omega)
    exact ⟨w, by omega, fun _ hp => br_f h1 (br_t h2 hp), fun _ hp => br_t h2 hp⟩
  | succ e ih =>
    intro w hw
    have h1 : ¬ 31 < nI w := nI_nlt (a := 31) (by omega) (by decide)
    by_cases h : s < 2 ^ w
    · have h2 : lN s < (1 : Int64) <<< ((nI w).toInt64 &&& 63) := (wd_lt (by omega) (by omega)).mpr h
      exact ⟨w, by omega, fun _ hp => br_f h1 (br_t h2 hp), fun _ hp => br_t h2 hp⟩
    · have h2 : ¬ lN s < (1 : Int64) <<< ((nI w).toInt64 &&& 63) := fun z => h ((wd_lt (by omega) (by omega)).mp z)
      obtain ⟨t, ht, hX, hY⟩ := ih (w + 1) (by omega)
      exact ⟨t, ht, fun _ hp => br_f h1 (br_f h2 (nm_r (nI_1 w) (hX _ hp))), fun _ hp => br_f h2 (nm_r (nI_1 w) (hY _ hp))⟩
theorem wd_over {s : Nat} (h1 : 2147483648 ≤ s) (h2 : s < 2 ^ 63) {post : Int32 → Prop} (hp : post 32) : ∀ e w, w + e = 32 → wX_widthOf_2 post (lN s) (nI n) fp (nI m) xv xp xt d cc cl ch (e + 1) (nI w) := by
  intro e
  induction e with
  | zero =>
    intro w hw
    rw [show w = 32 by omega]
    exact br_t (nI_lt (a := 31) (b := 32) (by decide) (by decide)) hp
  | succ e ih =>
    intro w hw
    have g : 2 ^ w ≤ 2 ^ 31 := Nat.pow_le_pow_right (by decide) (by omega)
    have h3 : ¬ lN s < (1 : Int64) <<< ((nI w).toInt64 &&& 63) := fun z => by
      have := (wd_lt h2 (by omega)).mp z
      omega
    exact br_f (nI_nlt (a := 31) (by omega) (by decide)) (br_f h3 (nm_r (nI_1 w) (ih (w + 1) (by omega))))
theorem jx_str4 (HX : jx_H n m xp cc P) {b c : Nat} (hb : b < 6) (hc : c < 3) {Q : Nat → Bool} (hQ : Q = fun i => !decide (P (16 * b + (i + 1)) c = P (16 * b + i) c)) {post : Int32 → Prop} (hp : post (nI (pu_cn Q 15 + 1))) : ∀ e t, t + e = 15 → wX_stretches_4 post (nI (c * 96 + b * 16)) (nI n) fp (nI m) xv xp xt d cc cl ch (e + 1) (nI (pu_cn Q t + 1)) (nI (t + 1)) := by
  intro e
  induction e with
  | zero =>
    intro t ht
    have ht : t = 15 := by omega
    subst ht
    exact br_t (Int32.le_refl _) hp
  | succ e ih =>
    intro t ht
    have ih := ih (t + 1) (by omega)
    have e1 : nI (c * 96 + b * 16) + nI (t + 1) - 1 = nI (c * 96 + b * 16) + nI t := by rw [nI_add, nI_add]; exact nI_pred _
    refine br_f (nI_ge (b := 16) (by omega) (by decide)) ⟨bx_i hb hc (by omega), ?_⟩
    rw [e1]
    refine ⟨bx_i hb hc (by omega), ?_⟩
    rw [bx_v HX hb hc (by omega), bx_v HX hb hc (by omega)]
    by_cases h : P (16 * b + (t + 1)) c = P (16 * b + t) c
    · rw [pu_cn_f (by simp [hQ, h])] at ih
      exact br_t h (nm_r (nI_1 _) ih)
    · rw [pu_cn_t (by simp [hQ, h])] at ih
      exact br_f h (nm_r (nI_1 _) (nm_r (nI_1 _) ih))
theorem jx_str (HX : jx_H n m xp cc P) {b c : Nat} (hb : b < 6) (hc : c < 3) {post : Int32 → Prop} (hp : post (nI (pu_cn (fun i => !decide (P (16 * b + (i + 1)) c = P (16 * b + i) c)) 15 + 1))) : wpX_stretches post (nI n, fp, nI m, xv, xp, xt, d, cc, cl, ch) (nI (c * 96 + b * 16)) :=
  ⟨16, jx_str4 HX hb hc rfl hp 15 0 (by omega)⟩
theorem jy_run5 (HY : jy_H n m yp cc P) {b c : Nat} (hb : b < 6) (hc : c < 3) {Q : Nat → Bool} (hQ : Q = fun i => !decide (P (16 * b + (i + 1)) c = P (16 * b + i) c)) {post : Int32 → Prop} (hp : post (37 * nI (pu_cn Q 15 + 1))) : ∀ e t, t + e = 15 → wY_runDigits_5 post (nI b) (nI c) (nI n) fp (nI m) yv yp yt d cc cl ch (e + 1) (nI (pu_cn Q t + 1)) (nI (t + 1)) := by
  intro e
  induction e with
  | zero =>
    intro t ht
    have ht : t = 15 := by omega
    subst ht
    exact br_t (Int32.le_refl _) hp
  | succ e ih =>
    intro t ht
    have ih := ih (t + 1) (by omega)
    refine br_f (nI_ge (b := 16) (by omega) (by decide)) (by_v HY hb hc (by omega) ?_)
    rw [nI_pred]
    refine by_v HY hb hc (by omega) ?_
    by_cases h : P (16 * b + (t + 1)) c = P (16 * b + t) c
    · rw [pu_cn_f (by simp [hQ, h])] at ih
      exact br_t h (nm_r (nI_1 _) ih)
    · rw [pu_cn_t (by simp [hQ, h])] at ih
      exact br_f h (nm_r (nI_1 _) (nm_r (nI_1 _) ih))
theorem jy_run (HY : jy_H n m yp cc P) {b c : Nat} (hb : b < 6) (hc : c < 3) {post : Int32 → Prop} (hp : post (37 * nI (pu_cn (fun i => !decide (P (16 * b + (i + 1)) c = P (16 * b + i) c)) 15 + 1))) : wpY_runDigits post (nI n, fp, nI m, yv, yp, yt, d, cc, cl, ch) (nI b) (nI c) :=
  ⟨16, jy_run5 HY hb hc rfl hp 15 0 (by omega)⟩
/-- the value at i of a block has not come before -/
def pu_fst (P : Nat → Nat → Int32) (b c i : Nat) : Bool := pu_all (fun k => !decide (P (16 * b + k) c = P (16 * b + i) c)) i 0
theorem jx_fst2 (HX : jx_H n m xp cc P) {b c i : Nat} (hb : b < 6) (hc : c < 3) (hi : i < 16) {post : Int32 → Prop} : ∀ e k, k + e = i → post (pb_I (pu_all (fun k => !decide (P (16 * b + k) c = P (16 * b + i) c)) e k)) → wX_isFirstInBlock_2 post (nI (c * 96 + b * 16)) (nI i) (nI n) fp (nI m) xv xp xt d cc cl ch (e + 1) (nI k) := by
  intro e
  induction e with
  | zero =>
    intro k hk h
    exact br_t (nI_le (by omega) (by omega)) h
  | succ e ih =>
    intro k hk h
    refine br_f (nI_ge (by omega) (by omega)) ⟨bx_i hb hc (by omega), bx_i hb hc (by omega), ?_⟩
    rw [bx_v HX hb hc (by omega), bx_v HX hb hc (by omega)]
    rw [pu_all] at h
    by_cases q : P (16 * b + k) c = P (16 * b + i) c
    · rw [decide_eq_true q] at h
      exact br_t q h
    · rw [decide_eq_false q] at h
      exact br_f q (nm_r (nI_1 k) (ih (k + 1) (by omega) h))
theorem jx_fst (HX : jx_H n m xp cc P) {b c i : Nat} (hb : b < 6) (hc : c < 3) (hi : i < 16) {post : Int32 → Prop} (h : post (pb_I (pu_fst P b c i))) : wpX_isFirstInBlock post (nI n, fp, nI m, xv, xp, xt, d, cc, cl, ch) (nI (c * 96 + b * 16)) (nI i) :=
  ⟨i + 1, jx_fst2 HX hb hc hi i 0 (by omega) h⟩
theorem jx_list4 (HX : jx_H n m xp cc P) {b c : Nat} (hb : b < 6) (hc : c < 3) {post : Int32 → Prop} (hp : wX_listDigits_4 post (nI (c * 96 + b * 16)) (nI n) fp (nI m) xv xp xt d cc cl ch 1 (nI (pu_cn (pu_fst P b c) 16)) 16) : ∀ e i, i + e = 16 → wX_listDigits_4 post (nI (c * 96 + b * 16)) (nI n) fp (nI m) xv xp xt d cc cl ch (e + 1) (nI (pu_cn (pu_fst P b c) i)) (nI i) := by
  intro e
  induction e with
  | zero =>
    intro i hi
    have hi : i = 16 := by omega
    subst hi
    exact hp
  | succ e ih =>
    intro i hi
    have ih := ih (i + 1) (by omega)
    refine br_f (nI_ge (b := 16) (by omega) (by decide)) (jx_fst HX hb hc (by omega) ?_)
    cases h : pu_fst P b c i with
    | false =>
      rw [pu_cn_f h] at ih
      exact br_t rfl (nm_r (nI_1 i) ih)
    | true =>
      rw [pu_cn_t h] at ih
      exact br_f (by decide) (nm_r (nI_1 _) (nm_r (nI_1 i) ih))
theorem jy_dist18 (HY : jy_H n m yp cc P) {b c i : Nat} (hb : b < 6) (hc : c < 3) (hi : i < 16) {a : Int32} {post : Int32 → Prop} {J : Int32 → Int32 → Prop} : ∀ e k f, k + e = i → J (a + pb_I (f && pu_all (fun k => !decide (P (16 * b + k) c = P (16 * b + i) c)) e k)) (nI (i + 1)) → wY_distinct_18 post J (nI b) (nI c) a (nI i) (nI n) fp (nI m) yv yp yt d cc cl ch (e + 1) (pb_I f) (nI k) := by
  intro e
  induction e with
  | zero =>
    intro k f hk h
    rw [pu_all, Bool.and_true] at h
    refine br_t (nI_le (by omega) (by omega)) ?_
    cases f with
    | false => rw [show a + pb_I false = a from Int32.add_zero a] at h; exact br_t rfl (nm_r (nI_1 i) h)
    | true => exact br_f (by decide) (nm_e (nm_r (nI_1 i) h))
  | succ e ih =>
    intro k f hk h
    refine br_f (nI_ge (by omega) (by omega)) ?_
    cases f with
    | false =>
      rw [Bool.false_and] at h
      refine br_t rfl (nm_r (nI_1 k) (ih (k + 1) false (by omega) ?_))
      rw [Bool.false_and]
      exact h
    | true =>
      rw [pu_all, Bool.true_and] at h
      refine br_f (by decide) (by_v HY hb hc (by omega) (by_v HY hb hc (by omega) ?_))
      by_cases q : P (16 * b + k) c = P (16 * b + i) c
      · rw [decide_eq_true q] at h
        exact br_t q (nm_r (nI_1 k) (ih (k + 1) false (by omega) h))
      · rw [decide_eq_false q] at h
        exact br_f q (nm_r (nI_1 k) (ih (k + 1) true (by omega) h))
theorem jy_dist5 (HY : jy_H n m yp cc P) {b c : Nat} (hb : b < 6) (hc : c < 3) {post : Int32 → Prop} (hp : post (nI (pu_cn (pu_fst P b c) 16))) : ∀ e i, i + e = 16 → wY_distinct_5 post (nI b) (nI c) (nI n) fp (nI m) yv yp yt d cc cl ch (e + 1) (nI (pu_cn (pu_fst P b c) i)) (nI i) := by
  intro e
  induction e with
  | zero =>
    intro i hi
    have hi : i = 16 := by omega
    subst hi
    exact br_t (Int32.le_refl _) hp
  | succ e ih =>
    intro i hi
    have ih := ih (i + 1) (by omega)
    refine br_f (nI_ge (b := 16) (by omega) (by decide)) ⟨i + 1, jy_dist18 HY hb hc (by omega) i 0 true (by omega) ?_⟩
    have e1 : nI (pu_cn (pu_fst P b c) i) + pb_I (true && pu_all (fun k => !decide (P (16 * b + k) c = P (16 * b + i) c)) i 0) = nI (pu_cn (pu_fst P b c) (i + 1)) := by
      show _ + pb_I (pu_fst P b c i) = _
      cases h : pu_fst P b c i with
      | false => rw [pu_cn_f h]; exact Int32.add_zero _
      | true => rw [pu_cn_t h]; exact nI_1 _
    rw [e1]
    exact ih
theorem jy_dist (HY : jy_H n m yp cc P) {b c : Nat} (hb : b < 6) (hc : c < 3) {post : Int32 → Prop} (hp : post (nI (pu_cn (pu_fst P b c) 16))) : wpY_distinct post (nI n, fp, nI m, yv, yp, yt, d, cc, cl, ch) (nI b) (nI c) :=
  ⟨17, jy_dist5 HY hb hc hp 16 0 (by omega)⟩
theorem pu_fst0 (P : Nat → Nat → Int32) (b c : Nat) : pu_fst P b c 0 = true := rfl
theorem pu_dist_pos (P : Nat → Nat → Int32) (b c : Nat) : 1 ≤ pu_cn (pu_fst P b c) 16 := pu_cn_lt (i := 0) (n := 16) (by decide) (pu_fst0 P b c)
theorem pu_fst_f {P : Nat → Nat → Int32} {b c i : Nat} : pu_fst P b c i = false ↔ ∃ k, k < i ∧ P (16 * b + k) c = P (16 * b + i) c := by
  constructor
  · intro h
    apply Classical.byContradiction
    intro z
    have : pu_fst P b c i = true := (pu_all_iff _ i 0).mpr (fun j _ hj => by
      have : ¬ P (16 * b + j) c = P (16 * b + i) c := fun q => z ⟨j, by omega, q⟩
      rw [decide_eq_false this]
      rfl)
    rw [this] at h
    cases h
  · intro ⟨k, hk, e⟩
    cases h : pu_fst P b c i with
    | false => rfl
    | true =>
      have := (pu_all_iff _ i 0).mp h k (by omega) (by omega)
      rw [decide_eq_true e] at this
      cases this
/-- one stretch if and only if one value -/
theorem pu_one (P : Nat → Nat → Int32) (b c : Nat) : pu_cn (fun i => !decide (P (16 * b + (i + 1)) c = P (16 * b + i) c)) 15 = 0 ↔ pu_cn (pu_fst P b c) 16 = 1 := by
  rw [pu_cn_0]
  constructor
  · intro h
    have all : ∀ i, i < 16 → P (16 * b + i) c = P (16 * b + 0) c := by
      intro i
      induction i with
      | zero => intro _; rfl
      | succ i ih =>
        intro hi
        have h1 := h i (by omega)
        simp only [Bool.not_eq_false', decide_eq_true_eq] at h1
        rw [h1, ih (by omega)]
    have cnt : ∀ i, i < 16 → pu_cn (pu_fst P b c) (i + 1) = 1 := by
      intro i
      induction i with
      | zero => intro _; exact pu_cn_t (pu_fst0 P b c)
      | succ i ih =>
        intro hi
        rw [pu_cn_f (pu_fst_f.mpr ⟨0, by omega, (all (i + 1) hi).symm⟩)]
        exact ih (by omega)
    exact cnt 15 (by decide)
  · intro h
    have fs : ∀ i, 0 < i → i < 16 → pu_fst P b c i = false := by
      intro i h0 hi
      cases q : pu_fst P b c i with
      | false => rfl
      | true =>
        have a1 := pu_cn_lt hi q
        have a2 := pu_cn_lt h0 (pu_fst0 P b c)
        omega
    have all : ∀ i, i < 16 → P (16 * b + i) c = P (16 * b + 0) c := by
      intro i
      induction i using Nat.strongRecOn with
      | ind i ih =>
        intro hi
        by_cases h0 : i = 0
        · rw [h0]
        · obtain ⟨k, hk, e⟩ := pu_fst_f.mp (fs i (by omega) hi)
          rw [← e]
          exact ih k hk (by omega)
    intro i hi
    rw [all (i + 1) (by omega), all i (by omega), decide_eq_true rfl]
    rfl
end
section
/-! frame and steps -/
variable {n m : Nat} {fp : Int32} {xv xp xt yv yp yt d cc cl ch : Nat → Int32} {V P : Nat → Nat → Int32}
/-- digits in a form on both sides: the same, or the form can't be used -/
def dg_R (a b : Nat) : Prop := (a = b ∧ a < 10000) ∨ (a = 1000000 ∧ b = 10000)
def fr_lo (lo x : Int64) : Int64 := if lo ≤ x then lo else x
def fr_hi (hi x : Int64) : Int64 := if x ≤ hi then hi else x
def fr_B (L : Int) (lo hi : Int64) : Prop := -L ≤ lo.toInt ∧ lo.toInt ≤ hi.toInt ∧ hi.toInt < L
theorem fr_Bs {L : Int} {lo hi x : Int64} (h : fr_B L lo hi) (h1 : -L ≤ x.toInt) (h2 : x.toInt < L) : fr_B L (fr_lo lo x) (fr_hi hi x) := by
  obtain ⟨a, b, c⟩ := h
  unfold fr_B fr_lo fr_hi
  have p := Int64.le_iff_toInt_le (x := lo) (y := x)
  have q := Int64.le_iff_toInt_le (x := x) (y := hi)
  by_cases p1 : lo ≤ x
  · by_cases q1 : x ≤ hi
    · rw [if_pos p1, if_pos q1]; exact ⟨a, b, c⟩
    · rw [if_pos p1, if_neg q1]
      exact ⟨a, p.mp p1, h2⟩
  · by_cases q1 : x ≤ hi
    · rw [if_neg p1, if_pos q1]; exact ⟨h1, q.mp q1, c⟩
    · rw [if_neg p1, if_neg q1]; exact ⟨h1, Int.le_refl _, h2⟩
theorem i6_x (x : Int32) : x.toInt64.toInt = x.toInt := Int32.toInt_toInt64 x
theorem i6_b (x : Int32) : -2147483648 ≤ x.toInt ∧ x.toInt < 2147483648 := ⟨Int32.le_toInt x, Int32.toInt_lt x⟩
theorem i6_sub {a b : Int64} (h1 : -1000000000000 ≤ a.toInt - b.toInt) (h2 : a.toInt - b.toInt < 1000000000000) : (a - b).toInt = a.toInt - b.toInt := by
  rw [Int64.toInt_sub]
  exact Int.bmod_eq_of_le (by omega) (by omega)
theorem i6_step (x y : Int32) : (x.toInt64 - y.toInt64).toInt = x.toInt - y.toInt := by
  have a := i6_b x
  have b := i6_b y
  rw [i6_sub, i6_x, i6_x] <;> rw [i6_x, i6_x] <;> omega
theorem i6_span {lo hi : Int64} (h : fr_B 4294967296 lo hi) : ∃ s : Nat, s < 10000000000 ∧ hi - lo = lN s ∧ (s : Int) = hi.toInt - lo.toInt := by
  obtain ⟨a, b, c⟩ := h
  refine ⟨(hi.toInt - lo.toInt).toNat, by omega, ?_, by omega⟩
  apply Int64.toInt_inj.mp
  rw [pk_lT (by omega), i6_sub (by omega) (by omega)]
  omega
theorem i6_int (x : Int64) : x = x.toInt32.toInt64 ↔ -2147483648 ≤ x.toInt ∧ x.toInt < 2147483648 := by
  constructor
  · intro h
    rw [h, i6_x]
    exact i6_b _
  · intro ⟨a, b⟩
    apply Int64.toInt_inj.mp
    rw [i6_x, Int64.toInt_toInt32]
    exact (Int.bmod_eq_of_le (by omega) (by omega)).symm
theorem i6_m : (-2147483648 : Int64).toInt = -2147483648 := by decide
theorem i6_p : (2147483647 : Int64).toInt = 2147483647 := by decide
theorem i6_g : (100000000000 : Int64).toInt = 100000000000 := by decide
theorem i6_gm : (-100000000000 : Int64).toInt = -100000000000 := by decide
theorem i6_31 {s : Nat} (hs : s < 10000000000) : (2147483648 : Int64) ≤ lN s ↔ 2147483648 ≤ s := pk_lLE (a := 2147483648) (by decide) (by omega)
theorem ax_38 (w : Nat) : 38 + (16 * nI w) = nI (38 + 16 * w) := by
  show nI 38 + nI 16 * nI w = _
  rw [pk_mul, nI_add]
theorem ax_70 (w : Nat) : 70 + (15 * nI w) = nI (70 + 15 * w) := by
  show nI 70 + nI 15 * nI w = _
  rw [pk_mul, nI_add]
theorem ax_32 (k w : Nat) : (32 * nI k) + (16 * nI w) = nI (32 * k + 16 * w) := by
  show nI 32 * nI k + nI 16 * nI w = _
  rw [pk_mul, pk_mul, nI_add]
theorem ax_37 (k : Nat) : 37 * nI k = nI (37 * k) := pk_mul 37 k
theorem jx_f46 {post : Int32 → Prop} {J : Int64 → Int64 → Int32 → Prop} {x1 : Int32} {hi x z : Int64} {i : Nat} (h : J z (fr_hi hi x) (nI (i + 1))) : wX_frameDigits_46 post J x1 hi (nI i) x z (nI n) fp (nI m) xv xp xt d cc cl ch := by
  unfold fr_hi at h
  by_cases q : x ≤ hi
  · rw [if_pos q] at h; exact br_t q (nm_r (nI_1 i) h)
  · rw [if_neg q] at h; exact br_f q (nm_r (nI_1 i) h)
theorem jy_f46 {post : Int32 → Prop} {J : Int64 → Int64 → Int32 → Prop} {x1 x2 : Int32} {hi x z : Int64} {i : Nat} (h : J z (fr_hi hi x) (nI (i + 1))) : wY_frameDigits_46 post J x1 x2 hi (nI i) x z (nI n) fp (nI m) yv yp yt d cc cl ch := by
  unfold fr_hi at h
  by_cases q : x ≤ hi
  · rw [if_pos q] at h; exact br_t q (nm_r (nI_1 i) h)
  · rw [if_neg q] at h; exact br_f q (nm_r (nI_1 i) h)
theorem jx_s42 {post : Int32 → Prop} {J : Int64 → Int64 → Int32 → Prop} {x1 : Int32} {hi x z : Int64} {i : Nat} (h : J z (fr_hi hi x) (nI (i + 1))) : wX_stepsDigits_42 post J x1 hi (nI i) x z (nI n) fp (nI m) xv xp xt d cc cl ch := by
  unfold fr_hi at h
  by_cases q : x ≤ hi
  · rw [if_pos q] at h; exact br_t q (nm_r (nI_1 i) h)
  · rw [if_neg q] at h; exact br_f q (nm_r (nI_1 i) h)
theorem jy_s55 {post : Int32 → Prop} {J : Int64 → Int64 → Int32 → Prop} {x1 x2 : Int32} {hi x z : Int64} {i : Nat} (h : J z (fr_hi hi x) (nI (i + 1))) : wY_stepDigits_55 post J x1 x2 hi (nI i) x z (nI n) fp (nI m) yv yp yt d cc cl ch := by
  unfold fr_hi at h
  by_cases q : x ≤ hi
  · rw [if_pos q] at h; exact br_t q (nm_r (nI_1 i) h)
  · rw [if_neg q] at h; exact br_f q (nm_r (nI_1 i) h)
theorem jb_frame (HX : jx_H n m xp cc P) (HY : jy_H n m yp cc P) {b c : Nat} (hb : b < 6) (hc : c < 3) : ∀ e t, t + e = 15 → ∀ lo hi : Int64, fr_B 2147483648 lo hi → ∃ a a' : Nat, dg_R a a' ∧ (∀ post : Int32 → Prop, post (nI a) → wX_frameDigits_14 post (nI (c * 96 + b * 16)) (nI n) fp (nI m) xv xp xt d cc cl ch (e + 1) lo hi (nI (t + 1))) ∧ (∀ post : Int32 → Prop, post (nI a') → wY_frameDigits_15 post (nI b) (nI c) (nI n) fp (nI m) yv yp yt d cc cl ch (e + 1) lo hi (nI (t + 1))) := by
  intro e
  induction e with
  | zero =>
    intro t ht lo hi hB
    have h16 : (16 : Int32) ≤ nI (t + 1) := nI_le (a := 16) (by omega) (by omega)
    obtain ⟨s, hs, es, ei⟩ := i6_span (lo := lo) (hi := hi) ⟨by have := hB.1; omega, hB.2.1, by have := hB.2.2; omega⟩
    by_cases q : s < 2147483648
    · have W : ∃ t, t ≤ 31 ∧ (∀ post : Int32 → Prop, post (nI t) → wX_widthOf_2 post (lN s) (nI n) fp (nI m) xv xp xt d cc cl ch (31 + 1) (nI 0)) ∧ (∀ post : Int32 → Prop, post (nI t) → wY_width_2 post (lN s) (nI n) fp (nI m) yv yp yt d cc cl ch (31 + 1) (nI 0)) := wd_both q 31 0 (by omega)
      obtain ⟨w, hw, wX, wY⟩ := W
      refine ⟨38 + 16 * w, 38 + 16 * w, Or.inl ⟨rfl, by omega⟩, fun post hp => br_t h16 ?_, fun post hp => br_t h16 ?_⟩
      · rw [es]
        refine ⟨32, wX _ (br_t (nI_le (b := 31) hw (by decide)) ?_)⟩
        rw [ax_38]
        exact hp
      · rw [es]
        refine br_f (fun z => ?_) ⟨32, wY _ ?_⟩
        · have := (i6_31 hs).mp z
          omega
        · rw [ax_38]
          exact hp
    · refine ⟨1000000, 10000, Or.inr ⟨rfl, rfl⟩, fun post hp => br_t h16 ?_, fun post hp => br_t h16 ?_⟩
      · rw [es]
        exact ⟨33, wd_over (by omega) (by omega) (br_f (by decide) hp) 32 0 (by omega)⟩
      · rw [es]
        exact br_t ((i6_31 hs).mpr (by omega)) hp
  | succ e ih =>
    intro t ht lo hi hB
    have h16 : ¬ (16 : Int32) ≤ nI (t + 1) := nI_ge (b := 16) (by omega) (by decide)
    have hx := i6_x (P (16 * b + (t + 1)) c)
    have hx2 := i6_b (P (16 * b + (t + 1)) c)
    obtain ⟨a, a', hR, hX, hY⟩ := ih (t + 1) (by omega) _ _ (fr_Bs hB (x := (P (16 * b + (t + 1)) c).toInt64) (by omega) (by omega))
    refine ⟨a, a', hR, fun post hp => br_f h16 ⟨bx_i hb hc (by omega), ?_⟩, fun post hp => br_f h16 (by_v HY hb hc (by omega) ?_)⟩
    · rw [bx_v HX hb hc (by omega)]
      refine nm_e ?_
      have hX := hX post hp
      unfold fr_lo at hX
      by_cases q : lo ≤ (P (16 * b + (t + 1)) c).toInt64
      · rw [if_pos q] at hX; exact br_t q (jx_f46 hX)
      · rw [if_neg q] at hX; exact br_f q (jx_f46 hX)
    · have hY := hY post hp
      unfold fr_lo at hY
      by_cases q : lo ≤ (P (16 * b + (t + 1)) c).toInt64
      · rw [if_pos q] at hY; exact br_t q (jy_f46 hY)
      · rw [if_neg q] at hY; exact br_f q (jy_f46 hY)
theorem bx_step (HX : jx_H n m xp cc P) {b c i : Nat} (hb : b < 6) (hc : c < 3) (hi : i + 1 < 16) {x : Int32} (hx : x = nI (c * 96 + b * 16) + nI i) {post : Int64 → Prop} (h : post ((P (16 * b + (i + 1)) c).toInt64 - (P (16 * b + i) c).toInt64)) : wpX_stepBehind post (nI n, fp, nI m, xv, xp, xt, d, cc, cl, ch) x := by
  have e1 : x + 1 = nI (c * 96 + b * 16) + nI (i + 1) := by rw [hx, nI_add, nI_add]; exact nI_1 _
  refine ⟨?_, ?_, ?_⟩
  · rw [e1]; exact bx_i hb hc hi
  · rw [hx]; exact bx_i hb hc (by omega)
  · rw [e1, hx, bx_v HX hb hc hi, bx_v HX hb hc (by omega)]
    exact h
theorem jb_steps (HX : jx_H n m xp cc P) (HY : jy_H n m yp cc P) {b c : Nat} (hb : b < 6) (hc : c < 3) : ∀ e t, t + e = 14 → ∀ lo hi : Int64, fr_B 4294967296 lo hi → ∃ a a' : Nat, dg_R a a' ∧ (∀ post : Int32 → Prop, post (nI a) → wX_stepsDigits_12 post (nI (c * 96 + b * 16)) (nI n) fp (nI m) xv xp xt d cc cl ch (e + 1) lo hi (nI (t + 1))) ∧ (∀ post : Int32 → Prop, post (nI a') → wY_stepDigits_12 post (nI b) (nI c) (nI n) fp (nI m) yv yp yt d cc cl ch (e + 1) lo hi (nI (t + 2))) := by
  intro e
  induction e with
  | zero =>
    intro t ht lo hi hB
    have h15 : (15 : Int32) ≤ nI (t + 1) := nI_le (a := 15) (by omega) (by omega)
    have h16 : (16 : Int32) ≤ nI (t + 2) := nI_le (a := 16) (by omega) (by omega)
    obtain ⟨s, hs, es, ei⟩ := i6_span hB
    obtain ⟨b1, b2, b3⟩ := hB
    by_cases q1 : lo.toInt < -2147483648
    · have x1 : ¬ lo = lo.toInt32.toInt64 := fun z => by have := (i6_int lo).mp z; omega
      have y1 : lo < -2147483648 := Int64.lt_iff_toInt_lt.mpr (by rw [i6_m]; exact q1)
      exact ⟨1000000, 10000, Or.inr ⟨rfl, rfl⟩, fun post hp => br_t h15 (br_f x1 hp), fun post hp => br_t h16 (br_t y1 (br_t rfl hp))⟩
    · have y1 : ¬ lo < -2147483648 := fun z => by have := Int64.lt_iff_toInt_lt.mp z; rw [i6_m] at this; exact q1 this
      by_cases q2 : 2147483647 < hi.toInt
      · have x2 : ¬ hi = hi.toInt32.toInt64 := fun z => by have := (i6_int hi).mp z; omega
        have y2 : 2147483647 < hi := Int64.lt_iff_toInt_lt.mpr (by rw [i6_p]; exact q2)
        exact ⟨1000000, 10000, Or.inr ⟨rfl, rfl⟩, fun post hp => br_t h15 (br_c (fun _ => br_f x2 hp) (fun _ => hp)), fun post hp => br_t h16 (br_f y1 (br_t y2 (br_t rfl hp)))⟩
      · have y2 : ¬ 2147483647 < hi := fun z => by have := Int64.lt_iff_toInt_lt.mp z; rw [i6_p] at this; exact q2 this
        have x1 : lo = lo.toInt32.toInt64 := (i6_int lo).mpr ⟨by omega, by omega⟩
        have x2 : hi = hi.toInt32.toInt64 := (i6_int hi).mpr ⟨by omega, by omega⟩
        by_cases q : s < 2147483648
        · have W : ∃ t, t ≤ 31 ∧ (∀ post : Int32 → Prop, post (nI t) → wX_widthOf_2 post (lN s) (nI n) fp (nI m) xv xp xt d cc cl ch (31 + 1) (nI 0)) ∧ (∀ post : Int32 → Prop, post (nI t) → wY_width_2 post (lN s) (nI n) fp (nI m) yv yp yt d cc cl ch (31 + 1) (nI 0)) := wd_both q 31 0 (by omega)
          obtain ⟨w, hw, wX, wY⟩ := W
          have y3 : ¬ 2147483648 ≤ hi - lo := fun z => by
            rw [es] at z
            have := (i6_31 hs).mp z
            omega
          refine ⟨70 + 15 * w, 70 + 15 * w, Or.inl ⟨rfl, by omega⟩, fun post hp => br_t h15 (br_t x1 (br_t x2 ?_)), fun post hp => br_t h16 (br_f y1 (br_f y2 (br_f y3 (br_f (by decide) ?_))))⟩
          · rw [es]
            refine ⟨32, wX _ (br_t (nI_le (b := 31) hw (by decide)) ?_)⟩
            rw [ax_70]
            exact hp
          · rw [es]
            refine ⟨32, wY _ ?_⟩
            rw [ax_70]
            exact hp
        · have y3 : 2147483648 ≤ hi - lo := by
            rw [es]
            exact (i6_31 hs).mpr (by omega)
          refine ⟨1000000, 10000, Or.inr ⟨rfl, rfl⟩, fun post hp => br_t h15 (br_t x1 (br_t x2 ?_)), fun post hp => br_t h16 (br_f y1 (br_f y2 (br_t y3 (br_t rfl hp))))⟩
          rw [es]
          exact ⟨33, wd_over (by omega) (by omega) (br_f (by decide) hp) 32 0 (by omega)⟩
  | succ e ih =>
    intro t ht lo hi hB
    have h15 : ¬ (15 : Int32) ≤ nI (t + 1) := nI_ge (b := 15) (by omega) (by decide)
    have h16 : ¬ (16 : Int32) ≤ nI (t + 2) := nI_ge (b := 16) (by omega) (by decide)
    have hx := i6_step (P (16 * b + (t + 1 + 1)) c) (P (16 * b + (t + 1)) c)
    have hx2 := i6_b (P (16 * b + (t + 1 + 1)) c)
    have hx3 := i6_b (P (16 * b + (t + 1)) c)
    obtain ⟨a, a', hR, hX, hY⟩ := ih (t + 1) (by omega) _ _ (fr_Bs hB (x := (P (16 * b + (t + 1 + 1)) c).toInt64 - (P (16 * b + (t + 1)) c).toInt64) (by omega) (by omega))
    refine ⟨a, a', hR, fun post hp => br_f h15 (bx_step HX hb hc (by omega) rfl ?_), fun post hp => br_f h16 (by_v HY hb hc (by omega) ?_)⟩
    · have hX := hX post hp
      unfold fr_lo at hX
      by_cases q : lo ≤ (P (16 * b + (t + 1 + 1)) c).toInt64 - (P (16 * b + (t + 1)) c).toInt64
      · rw [if_pos q] at hX; exact br_t q (jx_s42 hX)
      · rw [if_neg q] at hX; exact br_f q (jx_s42 hX)
    · rw [nI_pred]
      refine by_v HY hb hc (by omega) (nm_e ?_)
      have hY := hY post hp
      unfold fr_lo at hY
      by_cases q : lo ≤ (P (16 * b + (t + 1 + 1)) c).toInt64 - (P (16 * b + (t + 1)) c).toInt64
      · rw [if_pos q] at hY; exact br_t q (jy_s55 hY)
      · rw [if_neg q] at hY; exact br_f q (jy_s55 hY)
theorem jb_steps0 (HX : jx_H n m xp cc P) (HY : jy_H n m yp cc P) {b c : Nat} (hb : b < 6) (hc : c < 3) : ∃ a a' : Nat, dg_R a a' ∧ (∀ post : Int32 → Prop, post (nI a) → wpX_stepsDigits post (nI n, fp, nI m, xv, xp, xt, d, cc, cl, ch) (nI (c * 96 + b * 16))) ∧ (∀ post : Int32 → Prop, post (nI a') → wpY_stepDigits post (nI n, fp, nI m, yv, yp, yt, d, cc, cl, ch) (nI b) (nI c)) := by
  have hx := i6_step (P (16 * b + (0 + 1)) c) (P (16 * b + 0) c)
  have hx2 := i6_b (P (16 * b + (0 + 1)) c)
  have hx3 := i6_b (P (16 * b + 0) c)
  have K : ∃ a a' : Nat, dg_R a a' ∧ (∀ post : Int32 → Prop, post (nI a) → wX_stepsDigits_12 post (nI (c * 96 + b * 16)) (nI n) fp (nI m) xv xp xt d cc cl ch (14 + 1) ((P (16 * b + (0 + 1)) c).toInt64 - (P (16 * b + 0) c).toInt64) ((P (16 * b + (0 + 1)) c).toInt64 - (P (16 * b + 0) c).toInt64) (nI (0 + 1))) ∧ (∀ post : Int32 → Prop, post (nI a') → wY_stepDigits_12 post (nI b) (nI c) (nI n) fp (nI m) yv yp yt d cc cl ch (14 + 1) ((P (16 * b + (0 + 1)) c).toInt64 - (P (16 * b + 0) c).toInt64) ((P (16 * b + (0 + 1)) c).toInt64 - (P (16 * b + 0) c).toInt64) (nI (0 + 2))) := jb_steps HX HY hb hc 14 0 (by omega) _ _ ⟨by omega, Int.le_refl _, by omega⟩
  obtain ⟨a, a', hR, hX, hY⟩ := K
  refine ⟨a, a', hR, fun post hp => ?_, fun post hp => ?_⟩
  · unfold wpX_stepsDigits
    refine bx_step HX hb hc (i := 0) (by omega) ?_ ⟨15, hX post hp⟩
    rw [nI_0, Int32.add_zero]
  · refine ⟨16, br_f (by decide) ?_⟩
    refine by_v HY hb hc (i := 1) (by omega) ?_
    refine by_v HY hb hc (i := 0) (by omega) (nm_e ?_)
    have hY := hY post hp
    generalize (P (16 * b + (0 + 1)) c).toInt64 - (P (16 * b + 0) c).toInt64 = x at hx hY ⊢
    have q1 : ¬ 100000000000 ≤ x := fun z => by
      have := Int64.le_iff_toInt_le.mp z
      rw [i6_g] at this
      omega
    have q2 : ¬ x ≤ -100000000000 := fun z => by
      have := Int64.le_iff_toInt_le.mp z
      rw [i6_gm] at this
      omega
    exact br_f q1 (br_f q2 (nm_e hY))
theorem jb_frame0 (HX : jx_H n m xp cc P) (HY : jy_H n m yp cc P) {b c : Nat} (hb : b < 6) (hc : c < 3) : ∃ a a' : Nat, dg_R a a' ∧ (∀ post : Int32 → Prop, post (nI a) → wpX_frameDigits post (nI n, fp, nI m, xv, xp, xt, d, cc, cl, ch) (nI (c * 96 + b * 16))) ∧ (∀ post : Int32 → Prop, post (nI a') → wpY_frameDigits post (nI n, fp, nI m, yv, yp, yt, d, cc, cl, ch) (nI b) (nI c)) := by
  have hx := i6_x (P (16 * b + 0) c)
  have hx2 := i6_b (P (16 * b + 0) c)
  have K : ∃ a a' : Nat, dg_R a a' ∧ (∀ post : Int32 → Prop, post (nI a) → wX_frameDigits_14 post (nI (c * 96 + b * 16)) (nI n) fp (nI m) xv xp xt d cc cl ch (15 + 1) (P (16 * b + 0) c).toInt64 (P (16 * b + 0) c).toInt64 (nI (0 + 1))) ∧ (∀ post : Int32 → Prop, post (nI a') → wY_frameDigits_15 post (nI b) (nI c) (nI n) fp (nI m) yv yp yt d cc cl ch (15 + 1) (P (16 * b + 0) c).toInt64 (P (16 * b + 0) c).toInt64 (nI (0 + 1))) := jb_frame HX HY hb hc 15 0 (by omega) _ _ ⟨by omega, Int.le_refl _, by omega⟩
  obtain ⟨a, a', hR, hX, hY⟩ := K
  have e0 : nI (c * 96 + b * 16) = nI (c * 96 + b * 16) + nI 0 := by rw [nI_0, Int32.add_zero]
  refine ⟨a, a', hR, fun post hp => ⟨?_, nm_r (e' := (P (16 * b + 0) c).toInt64) ?_ ⟨16, hX post hp⟩⟩, fun post hp => ?_⟩
  · rw [e0]; exact bx_i hb hc (by omega)
  · rw [e0, bx_v HX hb hc (by omega)]
  · unfold wpY_frameDigits
    exact by_v HY hb hc (i := 0) (by omega) ⟨16, hY post hp⟩
end
section
/-! the six forms, the smallest of them, form and digits -/
variable {n m : Nat} {fp : Int32} {xv xp xt yv yp yt d cc cl ch : Nat → Int32} {V P : Nat → Nat → Int32}
theorem jb_single (HX : jx_H n m xp cc P) (HY : jy_H n m yp cc P) {b c : Nat} (hb : b < 6) (hc : c < 3) : ∃ a a' : Nat, dg_R a a' ∧ (∀ post : Int32 → Prop, post (nI a) → wpX_digitsIn post (nI n, fp, nI m, xv, xp, xt, d, cc, cl, ch) (nI 1) (nI (c * 96 + b * 16))) ∧ (∀ post : Int32 → Prop, post (nI a') → wpY_digitsOf post (nI n, fp, nI m, yv, yp, yt, d, cc, cl, ch) (nI b) (nI c) (nI 1)) := by
  have one := pu_one P b c
  have l1 := pu_cn_le (pu_fst P b c) 16
  have l2 := pu_cn_le (fun i => !decide (P (16 * b + (i + 1)) c = P (16 * b + i) c)) 15
  have toX : ∀ post : Int32 → Prop, wpX_singleDigits (fun r => post r) (nI n, fp, nI m, xv, xp, xt, d, cc, cl, ch) (nI (c * 96 + b * 16)) → wpX_digitsIn post (nI n, fp, nI m, xv, xp, xt, d, cc, cl, ch) (nI 1) (nI (c * 96 + b * 16)) := fun post h => br_f (by decide) (br_f (by decide) (br_f (by decide) (br_t (by decide) h)))
  have toY : ∀ post : Int32 → Prop, ((nI (pu_cn (pu_fst P b c) 16) = 1 → post 32) ∧ (¬ nI (pu_cn (pu_fst P b c) 16) = 1 → post 10000)) → wpY_digitsOf post (nI n, fp, nI m, yv, yp, yt, d, cc, cl, ch) (nI b) (nI c) (nI 1) := by
    intro post h
    unfold wpY_digitsOf
    exact jy_dist HY hb hc (br_f (by decide) (br_f (by decide) h))
  by_cases q : pu_cn (pu_fst P b c) 16 = 1
  · refine ⟨32, 32, Or.inl ⟨rfl, by decide⟩, fun post hp => toX post ?_, fun post hp => toY post (br_t (by rw [q]; rfl) hp)⟩
    unfold wpX_singleDigits
    refine jx_str HX hb hc ?_
    rw [one.mpr q]
    exact br_t rfl hp
  · refine ⟨1000000, 10000, Or.inr ⟨rfl, rfl⟩, fun post hp => toX post ?_, fun post hp => toY post (br_f (fun z => q ((nI_eq (b := 1) (by omega) (by decide)).mp z)) hp)⟩
    unfold wpX_singleDigits
    refine jx_str HX hb hc (br_f (fun z => ?_) hp)
    have := (nI_eq (b := 1) (by omega) (by decide)).mp z
    exact q (one.mp (by omega))
theorem jb_runs (HX : jx_H n m xp cc P) (HY : jy_H n m yp cc P) {b c : Nat} (hb : b < 6) (hc : c < 3) : ∃ a a' : Nat, dg_R a a' ∧ (∀ post : Int32 → Prop, post (nI a) → wpX_digitsIn post (nI n, fp, nI m, xv, xp, xt, d, cc, cl, ch) (nI 2) (nI (c * 96 + b * 16))) ∧ (∀ post : Int32 → Prop, post (nI a') → wpY_digitsOf post (nI n, fp, nI m, yv, yp, yt, d, cc, cl, ch) (nI b) (nI c) (nI 2)) := by
  have l2 := pu_cn_le (fun i => !decide (P (16 * b + (i + 1)) c = P (16 * b + i) c)) 15
  refine ⟨37 * (pu_cn (fun i => !decide (P (16 * b + (i + 1)) c = P (16 * b + i) c)) 15 + 1), _, Or.inl ⟨rfl, by omega⟩, fun post hp => br_f (by decide) (br_f (by decide) (br_f (by decide) (br_f (by decide) (br_t (by decide) (jx_str HX hb hc ?_))))), fun post hp => ?_⟩
  · rw [ax_37]
    exact hp
  · unfold wpY_digitsOf
    refine jy_dist HY hb hc (br_t (by decide) (br_f (by decide) (br_t (by decide) (jy_run HY hb hc ?_))))
    rw [ax_37]
    exact hp
theorem jb_list (HX : jx_H n m xp cc P) (HY : jy_H n m yp cc P) {b c : Nat} (hb : b < 6) (hc : c < 3) : ∃ a a' : Nat, dg_R a a' ∧ (∀ post : Int32 → Prop, post (nI a) → wpX_digitsIn post (nI n, fp, nI m, xv, xp, xt, d, cc, cl, ch) (nI 3) (nI (c * 96 + b * 16))) ∧ (∀ post : Int32 → Prop, post (nI a') → wpY_digitsOf post (nI n, fp, nI m, yv, yp, yt, d, cc, cl, ch) (nI b) (nI c) (nI 3)) := by
  have l1 := pu_cn_le (pu_fst P b c) 16
  have l0 := pu_dist_pos P b c
  have toX : ∀ post : Int32 → Prop, wX_listDigits_4 (fun r => post r) (nI (c * 96 + b * 16)) (nI n) fp (nI m) xv xp xt d cc cl ch 1 (nI (pu_cn (pu_fst P b c) 16)) 16 → wpX_digitsIn post (nI n, fp, nI m, xv, xp, xt, d, cc, cl, ch) (nI 3) (nI (c * 96 + b * 16)) := fun post h => br_f (by decide) (br_f (by decide) (br_f (by decide) (br_f (by decide) (br_f (by decide) (br_t (by decide) ⟨17, jx_list4 HX hb hc h 16 0 (by omega)⟩)))))
  have toY : ∀ post : Int32 → Prop, ((8 < nI (pu_cn (pu_fst P b c) 16) → post 10000) ∧ (¬ 8 < nI (pu_cn (pu_fst P b c) 16) → wpY_width (fun r => post ((32 * nI (pu_cn (pu_fst P b c) 16)) + (16 * r))) (nI n, fp, nI m, yv, yp, yt, d, cc, cl, ch) ((nI (pu_cn (pu_fst P b c) 16) - 1).toInt64))) → wpY_digitsOf post (nI n, fp, nI m, yv, yp, yt, d, cc, cl, ch) (nI b) (nI c) (nI 3) := by
    intro post h
    unfold wpY_digitsOf
    exact jy_dist HY hb hc (br_t (by decide) (br_t (by decide) h))
  have e1 : (nI (pu_cn (pu_fst P b c) 16) - 1).toInt64 = lN (pu_cn (pu_fst P b c) 16 - 1) := by
    have : nI (pu_cn (pu_fst P b c) 16) - 1 = nI (pu_cn (pu_fst P b c) 16 - 1) := pk_sub (b := 1) l0
    rw [this, nI_l (by omega)]
  by_cases q : pu_cn (pu_fst P b c) 16 ≤ 8
  · have W : ∃ t, t ≤ 31 ∧ (∀ post : Int32 → Prop, post (nI t) → wX_widthOf_2 post (lN (pu_cn (pu_fst P b c) 16 - 1)) (nI n) fp (nI m) xv xp xt d cc cl ch (31 + 1) (nI 0)) ∧ (∀ post : Int32 → Prop, post (nI t) → wY_width_2 post (lN (pu_cn (pu_fst P b c) 16 - 1)) (nI n) fp (nI m) yv yp yt d cc cl ch (31 + 1) (nI 0)) := wd_both (by omega) 31 0 (by omega)
    obtain ⟨w, hw, wX, wY⟩ := W
    refine ⟨32 * pu_cn (pu_fst P b c) 16 + 16 * w, _, Or.inl ⟨rfl, by omega⟩, fun post hp => toX post (br_t (by decide) (br_t (nI_le (b := 8) q (by decide)) ?_)), fun post hp => toY post (br_f (nI_nlt (a := 8) q (by decide)) ?_)⟩
    · rw [e1]
      refine ⟨32, wX _ ?_⟩
      rw [ax_32]
      exact hp
    · rw [e1]
      refine ⟨32, wY _ ?_⟩
      rw [ax_32]
      exact hp
  · exact ⟨1000000, 10000, Or.inr ⟨rfl, rfl⟩, fun post hp => toX post (br_t (by decide) (br_f (nI_ge (a := 8) (by omega) (by omega)) hp)), fun post hp => toY post (br_t (nI_lt (a := 8) (by omega) (by omega)) hp)⟩
theorem jb_dig (HX : jx_H n m xp cc P) (HY : jy_H n m yp cc P) {b c : Nat} (hb : b < 6) (hc : c < 3) (f : Nat) : ∃ q : Nat × Nat, f < 6 → (dg_R q.1 q.2 ∧ (f = 0 → q.1 = 512) ∧ (∀ post : Int32 → Prop, post (nI q.1) → wpX_digitsIn post (nI n, fp, nI m, xv, xp, xt, d, cc, cl, ch) (nI f) (nI (c * 96 + b * 16))) ∧ (∀ post : Int32 → Prop, post (nI q.2) → wpY_digitsOf post (nI n, fp, nI m, yv, yp, yt, d, cc, cl, ch) (nI b) (nI c) (nI f))) := by
  match f with
  | 0 =>
    refine ⟨(512, 512), fun _ => ⟨Or.inl ⟨rfl, by decide⟩, fun _ => rfl, fun post hp => br_f (by decide) (br_f (by decide) (br_t (by decide) hp)), fun post hp => ?_⟩⟩
    unfold wpY_digitsOf
    exact jy_dist HY hb hc (br_f (by decide) (br_t (by decide) hp))
  | 1 => obtain ⟨a, a', h1, h2, h3⟩ := jb_single (fp := fp) (xv := xv) (xt := xt) (yv := yv) (yt := yt) (d := d) (cl := cl) (ch := ch) HX HY hb hc; exact ⟨(a, a'), fun _ => ⟨h1, nofun, h2, h3⟩⟩
  | 2 => obtain ⟨a, a', h1, h2, h3⟩ := jb_runs (fp := fp) (xv := xv) (xt := xt) (yv := yv) (yt := yt) (d := d) (cl := cl) (ch := ch) HX HY hb hc; exact ⟨(a, a'), fun _ => ⟨h1, nofun, h2, h3⟩⟩
  | 3 => obtain ⟨a, a', h1, h2, h3⟩ := jb_list (fp := fp) (xv := xv) (xt := xt) (yv := yv) (yt := yt) (d := d) (cl := cl) (ch := ch) HX HY hb hc; exact ⟨(a, a'), fun _ => ⟨h1, nofun, h2, h3⟩⟩
  | 4 =>
    obtain ⟨a, a', h1, h2, h3⟩ := jb_frame0 (fp := fp) (xv := xv) (xt := xt) (yv := yv) (yt := yt) (d := d) (cl := cl) (ch := ch) HX HY hb hc
    refine ⟨(a, a'), fun _ => ⟨h1, nofun, fun post hp => br_f (by decide) (br_f (by decide) (br_f (by decide) (br_f (by decide) (br_f (by decide) (br_f (by decide) (br_t (by decide) (h2 _ hp))))))), fun post hp => ?_⟩⟩
    unfold wpY_digitsOf
    exact jy_dist HY hb hc (br_t (by decide) (br_f (by decide) (br_f (by decide) (br_t (by decide) (h3 _ hp)))))
  | 5 =>
    obtain ⟨a, a', h1, h2, h3⟩ := jb_steps0 (fp := fp) (xv := xv) (xt := xt) (yv := yv) (yt := yt) (d := d) (cl := cl) (ch := ch) HX HY hb hc
    refine ⟨(a, a'), fun _ => ⟨h1, nofun, fun post hp => br_f (by decide) (br_t (by decide) (h2 _ hp)), fun post hp => ?_⟩⟩
    unfold wpY_digitsOf
    exact jy_dist HY hb hc (br_t (by decide) (br_f (by decide) (br_f (by decide) (br_f (by decide) (h3 _ hp)))))
  | _ + 6 => exact ⟨(0, 0), fun h => by omega⟩
theorem jb_best9 {b c : Nat} {g : Nat → Nat × Nat} (G : ∀ f, f < 6 → (dg_R (g f).1 (g f).2 ∧ (f = 0 → (g f).1 = 512) ∧ (∀ post : Int32 → Prop, post (nI (g f).1) → wpX_digitsIn post (nI n, fp, nI m, xv, xp, xt, d, cc, cl, ch) (nI f) (nI (c * 96 + b * 16))) ∧ (∀ post : Int32 → Prop, post (nI (g f).2) → wpY_digitsOf post (nI n, fp, nI m, yv, yp, yt, d, cc, cl, ch) (nI b) (nI c) (nI f)))) : ∀ e f o, f + e = 6 → o < 6 → (g o).1 = (g o).2 → (g o).1 < 10000 → ∃ o', o' < 6 ∧ (g o').1 = (g o').2 ∧ (∀ post : Int32 → Prop, post (nI o') → wX_smallestForm_9 post (nI (c * 96 + b * 16)) (nI n) fp (nI m) xv xp xt d cc cl ch (e + 1) (nI o) (nI (g o).1) (nI f)) ∧ (∀ post : Int32 → Prop, post (nI o') → wY_best_5 post (nI b) (nI c) (nI n) fp (nI m) yv yp yt d cc cl ch (e + 1) (nI o) (nI f)) := by
  intro e
  induction e with
  | zero =>
    intro f o hf ho h1 h2
    have h6 : (6 : Int32) ≤ nI f := nI_le (a := 6) (by omega) (by omega)
    exact ⟨o, ho, h1, fun _ hp => br_t h6 hp, fun _ hp => br_t h6 hp⟩
  | succ e ih =>
    intro f o hf ho h1 h2
    have h6 : ¬ (6 : Int32) ≤ nI f := nI_ge (b := 6) (by omega) (by decide)
    obtain ⟨R, _, gX, gY⟩ := G f (by omega)
    obtain ⟨_, _, _, oY⟩ := G o ho
    by_cases q : (g f).1 < (g o).1
    · have q1 : (g f).1 = (g f).2 := by rcases R with R | R <;> omega
      have x1 : ¬ nI (g o).1 ≤ nI (g f).1 := nI_ge q (by omega)
      have y1 : ¬ nI (g o).2 ≤ nI (g f).2 := nI_ge (by omega) (by omega)
      obtain ⟨o', a1, a2, hX, hY⟩ := ih (f + 1) f (by omega) (by omega) q1 (by omega)
      exact ⟨o', a1, a2, fun post hp => br_f h6 (gX _ (br_f x1 (nm_r (nI_1 f) (hX post hp)))), fun post hp => br_f h6 (gY _ (oY _ (br_f y1 (nm_r (nI_1 f) (hY post hp)))))⟩
    · have x1 : nI (g o).1 ≤ nI (g f).1 := nI_le (by omega) (by rcases R with R | R <;> omega)
      have y1 : nI (g o).2 ≤ nI (g f).2 := nI_le (by rcases R with R | R <;> omega) (by rcases R with R | R <;> omega)
      obtain ⟨o', a1, a2, hX, hY⟩ := ih (f + 1) o (by omega) ho h1 h2
      exact ⟨o', a1, a2, fun post hp => br_f h6 (gX _ (br_t x1 (nm_r (nI_1 f) (hX post hp)))), fun post hp => br_f h6 (gY _ (oY _ (br_t y1 (nm_r (nI_1 f) (hY post hp)))))⟩
/-- a column of a block: the same form and the same digits on both sides -/
theorem jb_blk (HX : jx_H n m xp cc P) (HY : jy_H n m yp cc P) {b c : Nat} (hb : b < 6) (hc : c < 3) : ∃ o v : Nat, (∀ post : Int32 → Prop, post (nI o) → wpX_smallestForm post (nI n, fp, nI m, xv, xp, xt, d, cc, cl, ch) (nI (c * 96 + b * 16))) ∧ (∀ post : Int32 → Prop, post (nI v) → wpX_digitsIn post (nI n, fp, nI m, xv, xp, xt, d, cc, cl, ch) (nI o) (nI (c * 96 + b * 16))) ∧ (∀ post : Int32 → Prop, post (nI o) → wpY_best post (nI n, fp, nI m, yv, yp, yt, d, cc, cl, ch) (nI b) (nI c)) ∧ (∀ post : Int32 → Prop, post (nI v) → wpY_digitsOf post (nI n, fp, nI m, yv, yp, yt, d, cc, cl, ch) (nI b) (nI c) (nI o)) := by
  have D := jb_dig (fp := fp) (xv := xv) (xt := xt) (yv := yv) (yt := yt) (d := d) (cl := cl) (ch := ch) HX HY hb hc
  obtain ⟨g, G⟩ : ∃ g : Nat → Nat × Nat, ∀ f, f < 6 → (dg_R (g f).1 (g f).2 ∧ (f = 0 → (g f).1 = 512) ∧ (∀ post : Int32 → Prop, post (nI (g f).1) → wpX_digitsIn post (nI n, fp, nI m, xv, xp, xt, d, cc, cl, ch) (nI f) (nI (c * 96 + b * 16))) ∧ (∀ post : Int32 → Prop, post (nI (g f).2) → wpY_digitsOf post (nI n, fp, nI m, yv, yp, yt, d, cc, cl, ch) (nI b) (nI c) (nI f))) := ⟨fun f => Classical.choose (D f), fun f => Classical.choose_spec (D f)⟩
  have g0 := (G 0 (by decide)).2.1 rfl
  have g1 : (g 0).1 = (g 0).2 := by rcases (G 0 (by decide)).1 with R | R <;> omega
  obtain ⟨o, a1, a2, hX, hY⟩ := jb_best9 G 5 1 0 (by omega) (by decide) g1 (by omega)
  rw [g0] at hX
  refine ⟨o, (g o).1, fun post hp => ⟨6, hX post hp⟩, (G o a1).2.2.1, fun post hp => ⟨6, hY post hp⟩, ?_⟩
  rw [a2]
  exact (G o a1).2.2.2
theorem jb_digits (HX : jx_H n m xp cc P) (HY : jy_H n m yp cc P) {c : Nat} (hc : c < 3) : ∀ e b, b + e = n / 16 → ∀ a : Int32, ∃ r : Int32, (∀ post : Int32 → Prop, post r → wX_digits_24 post (nI c) (nI n) fp (nI m) xv xp xt d cc cl ch (e + 1) a (nI b)) ∧ (∀ post : Int32 → Prop, post r → wY_digits_24 post (nI c) (nI n) fp (nI m) yv yp yt d cc cl ch (e + 1) a (nI b)) := by
  have hn := HX.1
  intro e
  induction e with
  | zero =>
    intro b hb a
    have h : nI (n / 16) ≤ nI b := nI_le (by omega) (by omega)
    refine ⟨a, fun _ hp => ⟨ax_16, ?_⟩, fun _ hp => ⟨ax_16, ?_⟩⟩
    · rw [ax_d hn]
      exact br_t h hp
    · rw [ax_d hn]
      exact br_t h hp
  | succ e ih =>
    intro b hb a
    have h : ¬ nI (n / 16) ≤ nI b := nI_ge (by omega) (by omega)
    obtain ⟨o, v, x1, x2, y1, y2⟩ := jb_blk (fp := fp) (xv := xv) (xt := xt) (yv := yv) (yt := yt) (d := d) (cl := cl) (ch := ch) HX HY (b := b) (by omega) hc
    obtain ⟨r, hX, hY⟩ := ih (b + 1) (by omega) (a + nI v)
    refine ⟨r, fun post hp => ⟨ax_16, ?_⟩, fun post hp => ⟨ax_16, ?_⟩⟩
    · rw [ax_d hn]
      exact br_f h (bx_start (x1 _ (x2 _ (nm_e (nm_r (nI_1 b) (hX post hp))))))
    · rw [ax_d hn]
      exact br_f h (y1 _ (y2 _ (nm_e (nm_r (nI_1 b) (hY post hp)))))
end
section
/-! packBlock / pack, copyRow, dropPatches, compact -/
variable {n m : Nat} {fp : Int32} {xv xp xt yv yp yt d cc cl ch : Nat → Int32} {V P : Nat → Nat → Int32}
theorem st_up {f g h : Nat → Int32} {s t : Nat} (hst : s < t) (e : ∀ j, g j = if s + 1 ≤ j ∧ j < t then h j else upd f s (h s) j) : ∀ j, g j = if s ≤ j ∧ j < t then h j else f j := by
  intro j
  rw [e j]
  by_cases q : j = s
  · subst q
    rw [if_neg (by omega), if_pos (by omega), pk_us]
  · rw [pk_un q]
    by_cases z : s ≤ j ∧ j < t
    · rw [if_pos z, if_pos (by omega)]
    · rw [if_neg z, if_neg (by omega)]
theorem st_0 {f h : Nat → Int32} {s t : Nat} (hst : t ≤ s) : ∀ j, f j = if s ≤ j ∧ j < t then h j else f j := by
  intro j
  rw [if_neg (by omega)]
theorem jx_pk17 {post : SX → Prop} {J : Int32 → (Nat → Int32) → (Nat → Int32) → (Nat → Int32) → (Nat → Int32) → (Nat → Int32) → (Nat → Int32) → (Nat → Int32) → Prop} {x1 x2 f1 f2 f3 : Int32} {s : Nat} (hs : s + 16 ≤ 288) : ∀ e i xp, i + e = 16 → (∀ xp', (∀ j, xp' j = if s + i ≤ j ∧ j < s + 16 then xv j else xp j) → J (x2 + 1) xv xp' xt d cc cl ch) → wX_packBlock_17 post J x1 x2 (nI s) f1 f2 f3 (e + 1) (nI i) xv xp xt d cc cl ch := by
  intro e
  induction e with
  | zero =>
    intro i xp hi h
    exact br_t (nI_le (a := 16) (by omega) (by omega)) (nm_e (h xp (st_0 (by omega))))
  | succ e ih =>
    intro i xp hi h
    have ev : vp_in (nI s + nI i) 288 := by rw [nI_add]; exact vp_in_nI (by omega) (by decide)
    have ec : (nI s + nI i).toNatClampNeg = s + i := by rw [nI_add]; exact nI_clamp (by omega)
    refine br_f (nI_ge (b := 16) (by omega) (by decide)) ⟨ev, ev, nm_r (e' := upd xp (s + i) (xv (s + i))) (by rw [ec]) (nm_r (nI_1 i) (ih (i + 1) _ (by omega) (fun xp' h' => h xp' (st_up (by omega) h'))))⟩
theorem jx_pk2 {post : SX → Prop} {b : Nat} (hb : b < 6) : ∀ e c xp, c + e = 3 → (∀ xp' : Nat → Int32, (∀ r k, r < 96 → k < 3 → xp' (k * 96 + r) = if c ≤ k ∧ 16 * b ≤ r ∧ r < 16 * b + 16 then xv (k * 96 + r) else xp (k * 96 + r)) → post (nI n, fp, nI m, xv, xp', xt, d, cc, cl, ch)) → wX_packBlock_2 post (nI b) (nI n) fp (nI m) (e + 1) (nI c) xv xp xt d cc cl ch := by
  intro e
  induction e with
  | zero =>
    intro c xp hc h
    exact br_t (nI_le (a := 3) (by omega) (by omega)) (h xp (fun r k _ _ => by rw [if_neg (by omega)]))
  | succ e ih =>
    intro c xp hc h
    refine br_f (nI_ge (b := 3) (by omega) (by decide)) (bx_start ⟨17, jx_pk17 (by omega) 16 0 xp (by omega) (fun xp1 h1 => ?_)⟩)
    rw [nI_1]
    refine ih (c + 1) xp1 (by omega) (fun xp' h' => h xp' (fun r k hr hk => ?_))
    rw [h' r k hr hk, h1]
    by_cases z : c ≤ k ∧ 16 * b ≤ r ∧ r < 16 * b + 16
    · rw [if_pos z]
      by_cases y : c = k
      · rw [if_neg (by omega), if_pos (by omega)]
      · rw [if_pos (by omega)]
    · rw [if_neg z, if_neg (by omega), if_neg (by omega)]
theorem jx_pack {post : SX → Prop} {b : Nat} (hb : b < 6) (h : ∀ xp' : Nat → Int32, (∀ r k, r < 96 → k < 3 → xp' (k * 96 + r) = if 16 * b ≤ r ∧ r < 16 * b + 16 then xv (k * 96 + r) else xp (k * 96 + r)) → post (nI n, fp, nI m, xv, xp', xt, d, cc, cl, ch)) : wpX_packBlock post (nI n, fp, nI m, xv, xp, xt, d, cc, cl, ch) (nI b) :=
  ⟨4, jx_pk2 hb 3 0 xp (by omega) (fun xp' h' => h xp' (fun r k hr hk => by
    rw [h' r k hr hk]
    by_cases z : 16 * b ≤ r ∧ r < 16 * b + 16
    · rw [if_pos z, if_pos (by omega)]
    · rw [if_neg z, if_neg (by omega)]))⟩
theorem ax_48 (b : Nat) : (48 * nI b) + 48 = nI (48 * b + 48) := by
  show nI 48 * nI b + nI 48 = _
  rw [pk_mul, nI_add]
theorem jy_pk5 {post : SY → Prop} {b : Nat} (hb : b < 6) : ∀ e i yp yt, i + e = 48 * b + 48 → (∀ yp' yt' : Nat → Int32, (∀ j, yp' j = if i ≤ j ∧ j < 48 * b + 48 then yv j else yp j) → (∀ j, yt' j = if i ≤ j ∧ j < 48 * b + 48 then 0 else yt j) → post (nI n, fp, nI m, yv, yp', yt', d, cc, cl, ch)) → wY_pack_5 post (nI b) (nI n) fp (nI m) (e + 1) (nI i) yv yp yt d cc cl ch := by
  intro e
  induction e with
  | zero =>
    intro i yp yt hi h
    refine ⟨fun _ => h yp yt (st_0 (by omega)) (st_0 (h := fun _ => 0) (by omega)), fun z => ?_⟩
    rw [ax_48] at z
    exact absurd (nI_le (by omega) (by omega)) z
  | succ e ih =>
    intro i yp yt hi h
    refine ⟨fun z => ?_, fun _ => ?_⟩
    · rw [ax_48] at z
      exact absurd z (nI_ge (by omega) (by omega))
    · have ev : vp_in (nI i) 288 := vp_in_nI (by omega) (by decide)
      have ec : (nI i).toNatClampNeg = i := nI_clamp (by omega)
      refine ⟨ev, ev, nm_r (e' := upd yp i (yv i)) (by rw [ec]) ⟨ev, nm_r (e' := upd yt i 0) (by rw [ec, pb_0]) (nm_r (nI_1 i) (ih (i + 1) _ _ (by omega) (fun yp' yt' h1 h2 => h yp' yt' (st_up (by omega) h1) (st_up (h := fun _ => 0) (by omega) h2))))⟩⟩
theorem jy_pack {post : SY → Prop} {b : Nat} (hb : b < 6) (h : ∀ yp' yt' : Nat → Int32, (∀ j, yp' j = if 48 * b ≤ j ∧ j < 48 * b + 48 then yv j else yp j) → (∀ j, yt' j = if 48 * b ≤ j ∧ j < 48 * b + 48 then 0 else yt j) → post (nI n, fp, nI m, yv, yp', yt', d, cc, cl, ch)) : wpY_pack post (nI n, fp, nI m, yv, yp, yt, d, cc, cl, ch) (nI b) :=
  nm_r (e' := nI (48 * b)) (pk_mul 48 b) ⟨49, jy_pk5 hb 48 (48 * b) yp yt (by omega) h⟩
theorem jx_cp2 {post : SX → Prop} {f t : Nat} (hf : f < 96) (ht : t < 96) : ∀ e c xv, c + e = 3 → (∀ xv' : Nat → Int32, (∀ r k, r < 96 → k < 3 → xv' (k * 96 + r) = if c ≤ k ∧ r = t then xv (k * 96 + f) else xv (k * 96 + r)) → post (nI n, fp, nI m, xv', xp, xt, d, cc, cl, ch)) → wX_copyRow_2 post (nI f) (nI t) (nI n) fp (nI m) (e + 1) (nI c) xv xp xt d cc cl ch := by
  intro e
  induction e with
  | zero =>
    intro c xv hc h
    exact br_t (nI_le (a := 3) (by omega) (by omega)) (h xv (fun r k _ _ => by rw [if_neg (by omega)]))
  | succ e ih =>
    intro c xv hc h
    have e1 : ((nI c * 96) + nI t).toNatClampNeg = c * 96 + t := by rw [ax_x]; exact nI_clamp (by omega)
    have e2 : ((nI c * 96) + nI f).toNatClampNeg = c * 96 + f := by rw [ax_x]; exact nI_clamp (by omega)
    refine br_f (nI_ge (b := 3) (by omega) (by decide)) ⟨jx_i hf (by omega), jx_i ht (by omega), nm_r (e' := upd xv (c * 96 + t) (xv (c * 96 + f))) (by rw [e1, e2]) (nm_r (nI_1 c) (ih (c + 1) _ (by omega) (fun xv' h' => h xv' (fun r k hr hk => ?_))))⟩
    rw [h' r k hr hk]
    by_cases z : c ≤ k ∧ r = t
    · rw [if_pos z]
      by_cases y : k = c
      · rw [if_neg (by omega), y, z.2, pk_us]
      · rw [if_pos (by omega), pk_un (by omega)]
    · rw [if_neg z, if_neg (by omega), pk_un (by omega)]
theorem jx_copy {post : SX → Prop} {f t : Nat} (hf : f < 96) (ht : t < 96) (h : ∀ xv' : Nat → Int32, (∀ r k, r < 96 → k < 3 → xv' (k * 96 + r) = if r = t then xv (k * 96 + f) else xv (k * 96 + r)) → post (nI n, fp, nI m, xv', xp, xt, d, cc, cl, ch)) : wpX_copyRow post (nI n, fp, nI m, xv, xp, xt, d, cc, cl, ch) (nI f) (nI t) :=
  ⟨4, jx_cp2 hf ht 3 0 xv (by omega) (fun xv' h' => h xv' (fun r k hr hk => by
    rw [h' r k hr hk]
    by_cases z : r = t
    · rw [if_pos z, if_pos ⟨by omega, z⟩]
    · rw [if_neg z, if_neg (by omega)]))⟩
theorem jy_cp23 {post : Int32 → SY → Prop} {J : Int32 → Int32 → (Nat → Int32) → (Nat → Int32) → (Nat → Int32) → (Nat → Int32) → (Nat → Int32) → (Nat → Int32) → (Nat → Int32) → Prop} {f1 f2 f3 : Int32} {f t : Nat} (hf : f < 96) (ht : t < 96) : ∀ e c yv, c + e = 3 → (∀ yv' : Nat → Int32, (∀ r k, r < 96 → k < 3 → yv' (3 * r + k) = if c ≤ k ∧ r = t then yv (3 * f + k) else yv (3 * r + k)) → J (nI (t + 1)) (nI (f + 1)) yv' yp yt d cc cl ch) → wY_compact_23 post J (nI t) (nI f) f1 f2 f3 (e + 1) (nI c) yv yp yt d cc cl ch := by
  intro e
  induction e with
  | zero =>
    intro c yv hc h
    exact br_t (nI_le (a := 3) (by omega) (by omega)) (nm_r (nI_1 t) (nm_r (nI_1 f) (h yv (fun r k _ _ => by rw [if_neg (by omega)]))))
  | succ e ih =>
    intro c yv hc h
    have e1 : ((3 * nI t) + nI c).toNatClampNeg = 3 * t + c := by rw [ax_y]; exact nI_clamp (by omega)
    have e2 : ((3 * nI f) + nI c).toNatClampNeg = 3 * f + c := by rw [ax_y]; exact nI_clamp (by omega)
    refine br_f (nI_ge (b := 3) (by omega) (by decide)) ⟨jy_i hf (by omega), jy_i ht (by omega), nm_r (e' := upd yv (3 * t + c) (yv (3 * f + c))) (by rw [e1, e2]) (nm_r (nI_1 c) (ih (c + 1) _ (by omega) (fun yv' h' => h yv' (fun r k hr hk => ?_))))⟩
    rw [h' r k hr hk]
    by_cases z : c ≤ k ∧ r = t
    · rw [if_pos z]
      by_cases y : k = c
      · rw [if_neg (by omega), y, z.2, pk_us]
      · rw [if_pos (by omega), pk_un (by omega)]
    · rw [if_neg z, if_neg (by omega), pk_un (by omega)]
theorem jx_drop2 {post : SX → Prop} : ∀ e i xt, i + e = 288 → (∀ xt' : Nat → Int32, (∀ j, xt' j = if i ≤ j ∧ j < 288 then 0 else xt j) → post (nI n, 0, nI m, xv, xp, xt', d, cc, cl, ch)) → wX_dropPatches_2 post (nI n) fp (nI m) (e + 1) (nI i) xv xp xt d cc cl ch := by
  intro e
  induction e with
  | zero =>
    intro i xt hi h
    exact br_t (nI_le (a := 288) (by omega) (by omega)) (h xt (st_0 (h := fun _ => 0) (by omega)))
  | succ e ih =>
    intro i xt hi h
    have ec : (nI i).toNatClampNeg = i := nI_clamp (by omega)
    exact br_f (nI_ge (b := 288) (by omega) (by decide)) ⟨vp_in_nI (by omega) (by decide), nm_r (e' := upd xt i 0) (by rw [ec, pb_0]) (nm_r (nI_1 i) (ih (i + 1) _ (by omega) (fun xt' h' => h xt' (st_up (h := fun _ => 0) (by omega) h'))))⟩
theorem jx_c68 {post : Int32 → SX → Prop} (hn : n ≤ 96) : ∀ e b xp, b + e = n / 16 → (∀ xp' : Nat → Int32, (∀ r k, r < 96 → k < 3 → xp' (k * 96 + r) = if 16 * b ≤ r ∧ r < n / 16 * 16 then xv (k * 96 + r) else xp (k * 96 + r)) → post (nI n) (nI n, fp, nI m, xv, xp', xt, d, cc, cl, ch)) → wX_compact_68 post (e + 1) (nI b) (nI n) fp (nI m) xv xp xt d cc cl ch := by
  intro e
  induction e with
  | zero =>
    intro b xp hb h
    refine ⟨ax_16, ?_⟩
    rw [ax_d hn]
    exact br_t (nI_le (by omega) (by omega)) (h xp (fun r k _ _ => by rw [if_neg (by omega)]))
  | succ e ih =>
    intro b xp hb h
    refine ⟨ax_16, ?_⟩
    rw [ax_d hn]
    refine br_f (nI_ge (by omega) (by omega)) (jx_pack (by omega) (fun xp1 h1 => nm_r (nI_1 b) (ih (b + 1) xp1 (by omega) (fun xp' h' => h xp' (fun r k hr hk => ?_)))))
    rw [h' r k hr hk, h1 r k hr hk]
    by_cases z : 16 * b ≤ r ∧ r < n / 16 * 16
    · rw [if_pos z]
      by_cases y : r < 16 * b + 16
      · rw [if_neg (by omega), if_pos (by omega)]
      · rw [if_pos (by omega)]
    · rw [if_neg z, if_neg (by omega), if_neg (by omega)]
theorem jy_c96 {post : Int32 → SY → Prop} (hn : n ≤ 96) : ∀ e b yp yt, b + e = n / 16 → (∀ yp' yt' : Nat → Int32, (∀ j, yp' j = if 48 * b ≤ j ∧ j < n / 16 * 48 then yv j else yp j) → (∀ j, yt' j = if 48 * b ≤ j ∧ j < n / 16 * 48 then 0 else yt j) → post (nI n) (nI n, fp, nI m, yv, yp', yt', d, cc, cl, ch)) → wY_compact_96 post (e + 1) (nI b) (nI n) fp (nI m) yv yp yt d cc cl ch := by
  intro e
  induction e with
  | zero =>
    intro b yp yt hb h
    refine ⟨ax_16, ?_⟩
    rw [ax_d hn]
    exact br_t (nI_le (by omega) (by omega)) (h yp yt (st_0 (by omega)) (st_0 (h := fun _ => 0) (by omega)))
  | succ e ih =>
    intro b yp yt hb h
    refine ⟨ax_16, ?_⟩
    rw [ax_d hn]
    refine br_f (nI_ge (by omega) (by omega)) (jy_pack (by omega) (fun yp1 yt1 h1 h2 => nm_r (nI_1 b) (ih (b + 1) yp1 yt1 (by omega) (fun yp' yt' h1' h2' => h yp' yt' (fun j => ?_) (fun j => ?_)))))
    · rw [h1' j, h1 j]
      by_cases z : 48 * b ≤ j ∧ j < n / 16 * 48
      · rw [if_pos z]
        by_cases y : j < 48 * b + 48
        · rw [if_neg (by omega), if_pos (by omega)]
        · rw [if_pos (by omega)]
      · rw [if_neg z, if_neg (by omega), if_neg (by omega)]
    · rw [h2' j, h2 j]
      by_cases z : 48 * b ≤ j ∧ j < n / 16 * 48
      · rw [if_pos z]
        by_cases y : j < 48 * b + 48
        · rw [if_neg (by omega), if_pos (by omega)]
        · rw [if_pos (by omega)]
      · rw [if_neg z, if_neg (by omega), if_neg (by omega)]
/-- the deleted marks, wiped -/
def st_w (d : Nat → Int32) : Nat → Int32 := fun j => if j < 96 then 0 else d j
theorem st_we {d d' : Nat → Int32} (h : ∀ j, d' j = if 0 ≤ j ∧ j < 96 then 0 else d j) : d' = st_w d := by
  funext j
  rw [h j]
  unfold st_w
  by_cases z : j < 96
  · rw [if_pos z, if_pos (by omega)]
  · rw [if_neg z, if_neg (by omega)]
theorem jx_c43 {post : Int32 → SX → Prop} : ∀ e i d, i + e = 96 → (∀ d' : Nat → Int32, (∀ j, d' j = if i ≤ j ∧ j < 96 then 0 else d j) → wpX_dropPatches (fun u => match u with | (f_rowCount, f_patchCount, f_conditionCount, a_values, a_packed, a_patched, a_deleted, a_conditionColumn, a_conditionLow, a_conditionHigh) => (∃ n68 : Nat, wX_compact_68 post n68 0 f_rowCount f_patchCount f_conditionCount a_values a_packed a_patched a_deleted a_conditionColumn a_conditionLow a_conditionHigh)) (nI n, fp, nI m, xv, xp, xt, d', cc, cl, ch)) → wX_compact_43 post (nI n) fp (nI m) (e + 1) (nI i) xv xp xt d cc cl ch := by
  intro e
  induction e with
  | zero =>
    intro i d hi h
    exact br_t (nI_le (a := 96) (by omega) (by omega)) (h d (st_0 (h := fun _ => 0) (by omega)))
  | succ e ih =>
    intro i d hi h
    have ec : (nI i).toNatClampNeg = i := nI_clamp (by omega)
    exact br_f (nI_ge (b := 96) (by omega) (by decide)) ⟨vp_in_nI (by omega) (by decide), nm_r (e' := upd d i 0) (by rw [ec, pb_0]) (nm_r (nI_1 i) (ih (i + 1) _ (by omega) (fun d' h' => h d' (st_up (h := fun _ => 0) (by omega) h'))))⟩
theorem jy_c75 {post : Int32 → SY → Prop} : ∀ e i d, i + e = 96 → (∀ d' : Nat → Int32, (∀ j, d' j = if i ≤ j ∧ j < 96 then 0 else d j) → ∃ n96 : Nat, wY_compact_96 post n96 0 (nI n) fp (nI m) yv yp yt d' cc cl ch) → wY_compact_75 post (nI n) fp (nI m) (e + 1) (nI i) yv yp yt d cc cl ch := by
  intro e
  induction e with
  | zero =>
    intro i d hi h
    exact br_t (nI_le (a := 96) (by omega) (by omega)) (h d (st_0 (h := fun _ => 0) (by omega)))
  | succ e ih =>
    intro i d hi h
    have ec : (nI i).toNatClampNeg = i := nI_clamp (by omega)
    exact br_f (nI_ge (b := 96) (by omega) (by decide)) ⟨vp_in_nI (by omega) (by decide), nm_r (e' := upd d i 0) (by rw [ec, pb_0]) (nm_r (nI_1 i) (ih (i + 1) _ (by omega) (fun d' h' => h d' (st_up (h := fun _ => 0) (by omega) h'))))⟩
/-- what compact does to the picture: rows i .. i + e - 1 that are not deleted move to k, k + 1, .. -/
def cp_V (d : Nat → Int32) : Nat → Nat → Nat → (Nat → Nat → Int32) → (Nat → Nat → Int32) × Nat
  | 0, _, k, V => (V, k)
  | e + 1, i, k, V => if d i = 0 then cp_V d e (i + 1) (k + 1) (fun r c => if r = k then V i c else V r c) else cp_V d e (i + 1) k V
theorem cp_le (d : Nat → Int32) : ∀ e i k V, k ≤ i → (cp_V d e i k V).2 ≤ i + e := by
  intro e
  induction e with
  | zero => intro i k V h; exact h
  | succ e ih =>
    intro i k V h
    unfold cp_V
    split
    · have := ih (i + 1) (k + 1) (fun r c => if r = k then V i c else V r c) (by omega)
      omega
    · have := ih (i + 1) k V (by omega)
      omega
theorem jx_c4 {post : Int32 → SX → Prop} (hn : n ≤ 96) : ∀ e i k xv V, i + e = n → k ≤ i → (∀ r c, r < 96 → c < 3 → xv (c * 96 + r) = V r c) → (∀ xv' : Nat → Int32, (∀ r c, r < 96 → c < 3 → xv' (c * 96 + r) = (cp_V d e i k V).1 r c) → ∃ n43 : Nat, wX_compact_43 post (nI (cp_V d e i k V).2) fp (nI m) n43 0 xv' xp xt d cc cl ch) → wX_compact_4 post (e + 1) (nI k) (nI i) (nI n) fp (nI m) xv xp xt d cc cl ch := by
  intro e
  induction e with
  | zero =>
    intro i k xv V hi hk hV h
    exact br_t (nI_le (by omega) (by omega)) (h xv hV)
  | succ e ih =>
    intro i k xv V hi hk hV h
    refine br_f (nI_ge (by omega) (by omega)) ⟨vp_in_nI (by omega) (by decide), ?_⟩
    rw [nI_clamp (by omega)]
    unfold cp_V at h
    by_cases q : d i = 0
    · simp only [if_pos q] at h
      refine br_t q (jx_copy (by omega) (by omega) (fun xv1 h1 => nm_r (nI_1 k) (nm_r (nI_1 i) (ih (i + 1) (k + 1) xv1 _ (by omega) (by omega) (fun r c hr hc => ?_) h))))
      rw [h1 r c hr hc]
      by_cases z : r = k
      · rw [if_pos z, if_pos z, hV i c (by omega) hc]
      · rw [if_neg z, if_neg z, hV r c hr hc]
    · simp only [if_neg q] at h
      exact br_f q (nm_r (nI_1 i) (ih (i + 1) k xv V (by omega) (by omega) hV h))
theorem jy_c4 {post : Int32 → SY → Prop} (hn : n ≤ 96) : ∀ e i k yv V, i + e = n → k ≤ i → (∀ r c, r < 96 → c < 3 → yv (3 * r + c) = V r c) → (∀ yv' : Nat → Int32, (∀ r c, r < 96 → c < 3 → yv' (3 * r + c) = (cp_V d e i k V).1 r c) → ∃ n75 : Nat, wY_compact_75 post (nI (cp_V d e i k V).2) 0 (nI m) n75 0 yv' yp yt d cc cl ch) → wY_compact_4 post (nI n) fp (nI m) (e + 1) (nI k) (nI i) yv yp yt d cc cl ch := by
  intro e
  induction e with
  | zero =>
    intro i k yv V hi hk hV h
    exact br_t (nI_le (by omega) (by omega)) (h yv hV)
  | succ e ih =>
    intro i k yv V hi hk hV h
    refine br_f (nI_ge (by omega) (by omega)) ⟨vp_in_nI (by omega) (by decide), ?_⟩
    rw [nI_clamp (by omega)]
    unfold cp_V at h
    by_cases q : d i = 0
    · simp only [if_pos q] at h
      refine br_t q ⟨4, jy_cp23 (by omega) (by omega) 3 0 yv (by omega) (fun yv1 h1 => ih (i + 1) (k + 1) yv1 _ (by omega) (by omega) (fun r c hr hc => ?_) h)⟩
      rw [h1 r c hr hc]
      by_cases z : r = k
      · rw [if_pos ⟨by omega, z⟩, if_pos z, hV i c (by omega) hc]
      · rw [if_neg (by omega), if_neg z, hV r c hr hc]
    · simp only [if_neg q] at h
      exact br_f q (nm_r (nI_1 i) (ih (i + 1) k yv V (by omega) (by omega) hV h))
theorem jx_compact {post : Int32 → SX → Prop} (hn : n ≤ 96) (hV : ∀ r c, r < 96 → c < 3 → xv (c * 96 + r) = V r c) {k : Nat} (hk : k = (cp_V d n 0 0 V).2) (h : ∀ xv' xp' xt' : Nat → Int32, (∀ r c, r < 96 → c < 3 → xv' (c * 96 + r) = (cp_V d n 0 0 V).1 r c) → (∀ r c, r < 96 → c < 3 → xp' (c * 96 + r) = if r < k / 16 * 16 then xv' (c * 96 + r) else xp (c * 96 + r)) → (∀ j, j < 288 → xt' j = 0) → post (nI k) (nI k, 0, nI m, xv', xp', xt', st_w d, cc, cl, ch)) : wpX_compact post (nI n, fp, nI m, xv, xp, xt, d, cc, cl, ch) := by
  have hkn : k ≤ 96 := by
    have := cp_le d n 0 0 V (Nat.le_refl _)
    omega
  refine ⟨n + 1, jx_c4 hn n 0 0 xv V (by omega) (Nat.le_refl _) hV (fun xv' h1 => ?_)⟩
  rw [← hk]
  refine ⟨97, jx_c43 96 0 d (by omega) (fun d' hd => ?_)⟩
  rw [st_we hd]
  refine ⟨289, jx_drop2 288 0 xt (by omega) (fun xt' h2 => ?_)⟩
  refine ⟨k / 16 + 1, jx_c68 hkn (k / 16) 0 xp (by omega) (fun xp' h3 => h xv' xp' xt' h1 (fun r c hr hc => ?_) (fun j hj => ?_))⟩
  · rw [h3 r c hr hc]
    by_cases z : r < k / 16 * 16
    · rw [if_pos z, if_pos (by omega)]
    · rw [if_neg z, if_neg (by omega)]
  · rw [h2 j, if_pos (by omega)]
theorem jy_compact {post : Int32 → SY → Prop} (hn : n ≤ 96) (hV : ∀ r c, r < 96 → c < 3 → yv (3 * r + c) = V r c) {k : Nat} (hk : k = (cp_V d n 0 0 V).2) (h : ∀ yv' yp' yt' : Nat → Int32, (∀ r c, r < 96 → c < 3 → yv' (3 * r + c) = (cp_V d n 0 0 V).1 r c) → (∀ r c, r < 96 → c < 3 → yp' (3 * r + c) = if r < k / 16 * 16 then yv' (3 * r + c) else yp (3 * r + c)) → (∀ j, j < k / 16 * 48 → yt' j = 0) → post (nI k) (nI k, 0, nI m, yv', yp', yt', st_w d, cc, cl, ch)) : wpY_compact post (nI n, fp, nI m, yv, yp, yt, d, cc, cl, ch) := by
  have hkn : k ≤ 96 := by
    have := cp_le d n 0 0 V (Nat.le_refl _)
    omega
  refine ⟨n + 1, jy_c4 hn n 0 0 yv V (by omega) (Nat.le_refl _) hV (fun yv' h1 => ?_)⟩
  rw [← hk]
  refine ⟨97, jy_c75 96 0 d (by omega) (fun d' hd => ?_)⟩
  rw [st_we hd]
  refine ⟨k / 16 + 1, jy_c96 hkn (k / 16) 0 yp yt (by omega) (fun yp' yt' h3 h4 => h yv' yp' yt' h1 (fun r c hr hc => ?_) (fun j hj => ?_))⟩
  · rw [h3]
    by_cases z : r < k / 16 * 16
    · rw [if_pos z, if_pos (by omega)]
    · rw [if_neg z, if_neg (by omega)]
  · rw [h4 j, if_pos (by omega)]
end
section
/-! the relation; columns and live rows by case -/
variable {n m : Nat} {fp : Int32} {xv xp xt yv yp yt d cc cl ch : Nat → Int32} {V P : Nat → Nat → Int32}
/-- both states show one table: counts, marks and conditions alike; values and packed values by row and column; patched places alike in the blocks, and none of X's behind them -/
def rl_C (n p m : Nat) (xv xp xt yv yp yt d cc : Nat → Int32) : Prop :=
  p ≤ 20 ∧ n ≤ 96 ∧ m ≤ 4 ∧ (∀ j, ∃ c, c < 3 ∧ cc j = nI c) ∧ (∀ r, n ≤ r → d r = 0) ∧ (∀ r c, r < 96 → c < 3 → xv (c * 96 + r) = yv (3 * r + c)) ∧ (∀ r c, r < 96 → c < 3 → xp (c * 96 + r) = yp (3 * r + c)) ∧ (∀ r c, r < n / 16 * 16 → c < 3 → xt (c * 96 + r) = yt (3 * r + c)) ∧ (∀ r c, n / 16 * 16 ≤ r → r < 96 → c < 3 → xt (c * 96 + r) = 0)
def i_Rel (_ : Nat) (u : SX) (v : SY) : Prop :=
  ∃ (n p m : Nat) (xv xp xt yv yp yt d cc cl ch : Nat → Int32), u = (nI n, nI p, nI m, xv, xp, xt, d, cc, cl, ch) ∧ v = (nI n, nI p, nI m, yv, yp, yt, d, cc, cl, ch) ∧ rl_C n p m xv xp xt yv yp yt d cc
theorem rl_mk {k p : Nat} (C : rl_C n p m xv xp xt yv yp yt d cc) : i_Rel k (nI n, nI p, nI m, xv, xp, xt, d, cc, cl, ch) (nI n, nI p, nI m, yv, yp, yt, d, cc, cl, ch) :=
  ⟨n, p, m, xv, xp, xt, yv, yp, yt, d, cc, cl, ch, rfl, rfl, C⟩
theorem i_up {k : Nat} {u : SX} {v : SY} (h : i_Rel k u v) : i_Rel (k + 4) u v := h
theorem rl_VX {p : Nat} (C : rl_C n p m xv xp xt yv yp yt d cc) : jx_H n m xv cc (fun r c => yv (3 * r + c)) := ⟨C.2.1, C.2.2.1, C.2.2.2.1, C.2.2.2.2.2.1⟩
theorem rl_VY {p : Nat} (C : rl_C n p m xv xp xt yv yp yt d cc) : jy_H n m yv cc (fun r c => yv (3 * r + c)) := ⟨C.2.1, C.2.2.1, C.2.2.2.1, fun _ _ _ _ => rfl⟩
theorem rl_PX {p : Nat} (C : rl_C n p m xv xp xt yv yp yt d cc) : jx_H n m xp cc (fun r c => yp (3 * r + c)) := ⟨C.2.1, C.2.2.1, C.2.2.2.1, C.2.2.2.2.2.2.1⟩
theorem rl_PY {p : Nat} (C : rl_C n p m xv xp xt yv yp yt d cc) : jy_H n m yp cc (fun r c => yp (3 * r + c)) := ⟨C.2.1, C.2.2.1, C.2.2.2.1, fun _ _ _ _ => rfl⟩
theorem cl_no {x : Int32} {c : Nat} (hc : c < 3) (h : nI c < 0 ∨ 3 ≤ nI c) : False := by
  rcases h with h | h
  · exact nI_pos (by omega) h
  · exact nI_ge (b := 3) hc (by decide) h
theorem jx_colT {post : Int32 → Prop} {c : Nat} (hc : c < 3) (h : post 1) : wpX_isColumn post (nI n, fp, nI m, xv, xp, xt, d, cc, cl, ch) (nI c) :=
  jx_col (fun z => (cl_no (x := 0) hc z).elim) (fun _ _ _ => h)
theorem jx_colF {post : Int32 → Prop} {x : Int32} (hc : ¬ ∃ c, c < 3 ∧ x = nI c) (h : post 0) : wpX_isColumn post (nI n, fp, nI m, xv, xp, xt, d, cc, cl, ch) x :=
  jx_col (fun _ => h) (fun c h1 h2 => absurd ⟨c, h1, h2⟩ hc)
theorem jy_colT {post : Int32 → Prop} {c : Nat} (hc : c < 3) (h : post 1) : wpY_isColumn post (nI n, fp, nI m, yv, yp, yt, d, cc, cl, ch) (nI c) :=
  jy_col (fun z => (cl_no (x := 0) hc z).elim) (fun _ _ _ => h)
theorem jy_colF {post : Int32 → Prop} {x : Int32} (hc : ¬ ∃ c, c < 3 ∧ x = nI c) (h : post 0) : wpY_isColumn post (nI n, fp, nI m, yv, yp, yt, d, cc, cl, ch) x :=
  jy_col (fun _ => h) (fun c h1 h2 => absurd ⟨c, h1, h2⟩ hc)
theorem jx_livT {post : Int32 → Prop} {r : Nat} (hn : n ≤ 96) (hr : r < n) (hd : d r = 0) (h : post 1) : wpX_isLiveRow post (nI n, fp, nI m, xv, xp, xt, d, cc, cl, ch) (nI r) := by
  refine br_f (nI_pos (by omega)) (br_f (nI_ge hr (by omega)) ⟨vp_in_nI (by omega) (by decide), ?_⟩)
  rw [nI_clamp (by omega)]
  exact br_t hd h
theorem jy_livT {post : Int32 → Prop} {r : Nat} (hn : n ≤ 96) (hr : r < n) (hd : d r = 0) (h : post 1) : wpY_isRow post (nI n, fp, nI m, yv, yp, yt, d, cc, cl, ch) (nI r) := by
  refine br_f (nI_pos (by omega)) (br_f (nI_ge hr (by omega)) ⟨vp_in_nI (by omega) (by decide), ?_⟩)
  rw [nI_clamp (by omega)]
  exact br_t hd h
theorem jx_livF {post : Int32 → Prop} {x : Int32} (hn : n ≤ 96) (hr : ¬ ∃ r, r < n ∧ d r = 0 ∧ x = nI r) (h : post 0) : wpX_isLiveRow post (nI n, fp, nI m, xv, xp, xt, d, cc, cl, ch) x := by
  by_cases a : x < 0
  · exact br_t a h
  · obtain ⟨j, hj, rfl⟩ := nI_of a
    refine br_f a (pk_le n j (fun _ => h) (fun q => ⟨vp_in_nI (by omega) (by decide), ?_⟩))
    rw [nI_clamp hj]
    exact br_c (fun z => absurd ⟨j, q, z, rfl⟩ hr) (fun _ => h)
theorem jy_livF {post : Int32 → Prop} {x : Int32} (hn : n ≤ 96) (hr : ¬ ∃ r, r < n ∧ d r = 0 ∧ x = nI r) (h : post 0) : wpY_isRow post (nI n, fp, nI m, yv, yp, yt, d, cc, cl, ch) x := by
  by_cases a : x < 0
  · exact br_t a h
  · obtain ⟨j, hj, rfl⟩ := nI_of a
    refine br_f a (pk_le n j (fun _ => h) (fun q => ⟨vp_in_nI (by omega) (by decide), ?_⟩))
    rw [nI_clamp hj]
    exact br_c (fun z => absurd ⟨j, q, z, rfl⟩ hr) (fun _ => h)
theorem rl_set {f g : Nat → Int32} {R : Nat → Prop} (h : ∀ r c, R r → r < 96 → c < 3 → f (c * 96 + r) = g (3 * r + c)) {r0 c0 i j : Nat} (hr0 : r0 < 96) (hc0 : c0 < 3) (hi : i = c0 * 96 + r0) (hj : j = 3 * r0 + c0) (x : Int32) : ∀ r c, R r → r < 96 → c < 3 → upd f i x (c * 96 + r) = upd g j x (3 * r + c) := by
  intro r c hR hr hc
  by_cases z : r = r0 ∧ c = c0
  · rw [hi, hj, z.1, z.2, pk_us, pk_us]
  · rw [pk_un (by omega), pk_un (by omega)]
    exact h r c hR hr hc
theorem rl_same {f : Nat → Int32} {i : Nat} {x : Int32} (h : f i = x) : upd f i x = f := by
  funext j
  by_cases z : j = i
  · rw [z, pk_us, h]
  · rw [pk_un z]
end
section
/-! the owed statements: those that change nothing -/
theorem i_vc0 : wpX_init (fun u => wpY_init (fun v => i_Rel 0 u v)) :=
  ⟨0, 0, 0, fun _ => 0, fun _ => 0, fun _ => 0, fun _ => 0, fun _ => 0, fun _ => 0, fun _ => 0, fun _ => 0, fun _ => 0, fun _ => 0, rfl, rfl, by decide, by decide, by decide, fun _ => ⟨0, by decide, rfl⟩, fun _ _ => rfl, fun _ _ _ _ => rfl, fun _ _ _ _ => rfl, fun _ _ _ _ => rfl, fun _ _ _ _ _ => rfl⟩
theorem i_vc_rows {k : Nat} {u : SX} {v : SY} (I : i_Rel k u v) (hk : k + 4 ≤ 2048) : wpX_rows (fun r => wpY_rows (fun r' => r' = r ∧ i_Rel (k + 4) u v) v) u := by
  obtain ⟨n, p, m, xv, xp, xt, yv, yp, yt, d, cc, cl, ch, rfl, rfl, C⟩ := I
  exact ⟨rfl, rl_mk C⟩
theorem i_vc_patches {k : Nat} {u : SX} {v : SY} (I : i_Rel k u v) (hk : k + 4 ≤ 2048) : wpX_patches (fun r => wpY_patches (fun r' => r' = r ∧ i_Rel (k + 4) u v) v) u := by
  obtain ⟨n, p, m, xv, xp, xt, yv, yp, yt, d, cc, cl, ch, rfl, rfl, C⟩ := I
  exact ⟨rfl, rl_mk C⟩
theorem i_vc_blocks {k : Nat} {u : SX} {v : SY} (I : i_Rel k u v) (hk : k + 4 ≤ 2048) : wpX_blocks (fun r => wpY_blocks (fun r' => r' = r ∧ i_Rel (k + 4) u v) v) u := by
  obtain ⟨n, p, m, xv, xp, xt, yv, yp, yt, d, cc, cl, ch, rfl, rfl, C⟩ := I
  exact ⟨ax_16, ax_16, rfl, rl_mk C⟩
theorem i_vc_value {k : Nat} {u : SX} {v : SY} (I : i_Rel k u v) (hk : k + 4 ≤ 2048) (v1 : Int32) (v2 : Int32) : wpX_value (fun r => wpY_value (fun r' => r' = r ∧ i_Rel (k + 4) u v) v v1 v2) u v1 v2 := by
  obtain ⟨n, p, m, xv, xp, xt, yv, yp, yt, d, cc, cl, ch, rfl, rfl, C⟩ := I
  have hn := C.2.1
  by_cases hc : ∃ c, c < 3 ∧ v2 = nI c
  · obtain ⟨c, hc, rfl⟩ := hc
    unfold wpX_value
    refine jx_colT hc (br_f (by decide) ?_)
    by_cases hr : ∃ r, r < n ∧ d r = 0 ∧ v1 = nI r
    · obtain ⟨r, hr, hd, rfl⟩ := hr
      refine jx_livT hn hr hd (br_f (by decide) ⟨jx_i (by omega) hc, ?_⟩)
      rw [jx_v (rl_VX C) (by omega) hc]
      unfold wpY_value
      refine jy_colT hc (br_f (by decide) (jy_livT hn hr hd (br_f (by decide) ⟨jy_i (by omega) hc, ?_⟩)))
      rw [jy_v (rl_VY C) (by omega) hc]
      exact ⟨rfl, rl_mk C⟩
    · refine jx_livF hn hr (br_t rfl ?_)
      unfold wpY_value
      exact jy_colT hc (br_f (by decide) (jy_livF hn hr (br_t rfl ⟨rfl, rl_mk C⟩)))
  · unfold wpX_value
    refine jx_colF hc (br_t rfl ?_)
    unfold wpY_value
    exact jy_colF hc (br_t rfl ⟨rfl, rl_mk C⟩)
theorem i_vc_form {k : Nat} {u : SX} {v : SY} (I : i_Rel k u v) (hk : k + 4 ≤ 2048) (v1 : Int32) (v2 : Int32) : wpX_form (fun r => wpY_form (fun r' => r' = r ∧ i_Rel (k + 4) u v) v v1 v2) u v1 v2 := by
  obtain ⟨n, p, m, xv, xp, xt, yv, yp, yt, d, cc, cl, ch, rfl, rfl, C⟩ := I
  have hn := C.2.1
  by_cases hc : ∃ c, c < 3 ∧ v2 = nI c
  · obtain ⟨c, hc, rfl⟩ := hc
    unfold wpX_form
    refine jx_colT hc (br_f (by decide) ?_)
    by_cases hb : v1 < 0
    · refine br_t hb ?_
      unfold wpY_form
      exact jy_colT hc (br_f (by decide) (br_t hb ⟨rfl, rl_mk C⟩))
    · refine br_f hb ⟨ax_16, ?_⟩
      rw [ax_d hn]
      obtain ⟨b, hb2, rfl⟩ := nI_of hb
      by_cases hq : b < n / 16
      · obtain ⟨o, w, x1, x2, y1, y2⟩ := jb_blk (fp := nI p) (xv := xv) (xp := xp) (xt := xt) (yv := yv) (yp := yp) (yt := yt) (d := d) (cl := cl) (ch := ch) (rl_PX C) (rl_PY C) (b := b) (by omega) hc
        refine br_t (nI_lt hq (by omega)) (bx_start (x1 _ ?_))
        unfold wpY_form
        exact jy_colT hc (br_f (by decide) (br_f hb (by_bc hn (br_f (nI_ge hq (by omega)) (y1 _ ⟨rfl, rl_mk C⟩)))))
      · refine br_f (nI_nlt (by omega) hb2) ?_
        unfold wpY_form
        exact jy_colT hc (br_f (by decide) (br_f hb (by_bc hn (br_t (nI_le (by omega) hb2) ⟨rfl, rl_mk C⟩))))
  · unfold wpX_form
    refine jx_colF hc (br_t rfl ?_)
    unfold wpY_form
    exact jy_colF hc (br_t rfl ⟨rfl, rl_mk C⟩)
theorem i_vc_digits {k : Nat} {u : SX} {v : SY} (I : i_Rel k u v) (hk : k + 4 ≤ 2048) (v1 : Int32) : wpX_digits (fun r => wpY_digits (fun r' => r' = r ∧ i_Rel (k + 4) u v) v v1) u v1 := by
  obtain ⟨n, p, m, xv, xp, xt, yv, yp, yt, d, cc, cl, ch, rfl, rfl, C⟩ := I
  have hn := C.2.1
  by_cases hc : ∃ c, c < 3 ∧ v1 = nI c
  · obtain ⟨c, hc, rfl⟩ := hc
    obtain ⟨r, hX, hY⟩ := jb_digits (fp := nI p) (xv := xv) (xp := xp) (xt := xt) (yv := yv) (yp := yp) (yt := yt) (d := d) (cl := cl) (ch := ch) (rl_PX C) (rl_PY C) hc (n / 16) 0 (by omega) ((nI n - nI n / 16 * 16) * 32)
    unfold wpX_digits
    refine jx_colT hc (br_f (by decide) ⟨ax_16, nm_e ⟨_, hX _ ?_⟩⟩)
    unfold wpY_digits
    exact jy_colT hc (br_f (by decide) ⟨ax_16, nm_r (Int32.mul_comm _ _) ⟨_, hY _ ⟨rfl, rl_mk C⟩⟩⟩)
  · unfold wpX_digits
    refine jx_colF hc (br_t rfl ?_)
    unfold wpY_digits
    exact jy_colF hc (br_t rfl ⟨rfl, rl_mk C⟩)
theorem i_vc_passed {k : Nat} {u : SX} {v : SY} (I : i_Rel k u v) (hk : k + 4 ≤ 2048) : wpX_passed (fun r => wpY_passed (fun r' => r' = r ∧ i_Rel (k + 4) u v) v) u := by
  obtain ⟨n, p, m, xv, xp, xt, yv, yp, yt, d, cc, cl, ch, rfl, rfl, C⟩ := I
  obtain ⟨r, hX, hY⟩ := jb_passed (fp := nI p) (xv := xv) (xp := xp) (xt := xt) (yv := yv) (yp := yp) (yt := yt) (d := d) (cl := cl) (ch := ch) (rl_PX C) (rl_PY C) (n / 16) 0 (by omega) 0
  exact ⟨_, hX _ ⟨_, hY _ ⟨rfl, rl_mk C⟩⟩⟩
theorem i_vc_count {k : Nat} {u : SX} {v : SY} (I : i_Rel k u v) (hk : k + 4 ≤ 2048) : wpX_count (fun r => wpY_count (fun r' => r' = r ∧ i_Rel (k + 4) u v) v) u := by
  obtain ⟨n, p, m, xv, xp, xt, yv, yp, yt, d, cc, cl, ch, rfl, rfl, C⟩ := I
  obtain ⟨r, hX, hY⟩ := jb_count (fp := nI p) (xv := xv) (xp := xp) (xt := xt) (yv := yv) (yp := yp) (yt := yt) (d := d) (cl := cl) (ch := ch) (rl_VX C) (rl_VY C) n 0 (by omega) 0
  exact ⟨_, hX _ ⟨_, hY _ ⟨rfl, rl_mk C⟩⟩⟩
theorem i_vc_chosen {k : Nat} {u : SX} {v : SY} (I : i_Rel k u v) (hk : k + 4 ≤ 2048) (v1 : Int32) : wpX_chosen (fun r => wpY_chosen (fun r' => r' = r ∧ i_Rel (k + 4) u v) v v1) u v1 := by
  obtain ⟨n, p, m, xv, xp, xt, yv, yp, yt, d, cc, cl, ch, rfl, rfl, C⟩ := I
  obtain ⟨r, hX, hY⟩ := jb_chosen (fp := nI p) (xv := xv) (xp := xp) (xt := xt) (yv := yv) (yp := yp) (yt := yt) (d := d) (cl := cl) (ch := ch) (rl_VX C) (rl_VY C) v1 n 0 (by omega) 0
  rw [Int32.sub_zero] at hY
  exact ⟨_, hX _ ⟨_, hY _ ⟨rfl, rl_mk C⟩⟩⟩
theorem i_vc_sum {k : Nat} {u : SX} {v : SY} (I : i_Rel k u v) (hk : k + 4 ≤ 2048) (v1 : Int32) : wpX_sum (fun r => wpY_sum (fun r' => r' = r ∧ i_Rel (k + 4) u v) v v1) u v1 := by
  obtain ⟨n, p, m, xv, xp, xt, yv, yp, yt, d, cc, cl, ch, rfl, rfl, C⟩ := I
  by_cases hc : ∃ c, c < 3 ∧ v1 = nI c
  · obtain ⟨c, hc, rfl⟩ := hc
    obtain ⟨r, hX, hY⟩ := jb_sum (fp := nI p) (xv := xv) (xp := xp) (xt := xt) (yv := yv) (yp := yp) (yt := yt) (d := d) (cl := cl) (ch := ch) (rl_VX C) (rl_VY C) hc n 0 (by omega) 0
    unfold wpX_sum
    refine jx_colT hc (br_f (by decide) ⟨_, hX _ ?_⟩)
    unfold wpY_sum
    exact jy_colT hc (br_f (by decide) ⟨_, hY _ ⟨rfl, rl_mk C⟩⟩)
  · unfold wpX_sum
    refine jx_colF hc (br_t rfl ?_)
    unfold wpY_sum
    exact jy_colF hc (br_t rfl ⟨rfl, rl_mk C⟩)
theorem i_vc_least {k : Nat} {u : SX} {v : SY} (I : i_Rel k u v) (hk : k + 4 ≤ 2048) (v1 : Int32) : wpX_least (fun r => wpY_least (fun r' => r' = r ∧ i_Rel (k + 4) u v) v v1) u v1 := by
  obtain ⟨n, p, m, xv, xp, xt, yv, yp, yt, d, cc, cl, ch, rfl, rfl, C⟩ := I
  by_cases hc : ∃ c, c < 3 ∧ v1 = nI c
  · obtain ⟨c, hc, rfl⟩ := hc
    obtain ⟨r, hX, hY⟩ := jb_least (fp := nI p) (xv := xv) (xp := xp) (xt := xt) (yv := yv) (yp := yp) (yt := yt) (d := d) (cl := cl) (ch := ch) (rl_VX C) (rl_VY C) hc n 0 (by omega) 0 (-1000000003)
    unfold wpX_least
    refine jx_colT hc (br_f (by decide) ⟨_, hX _ ?_⟩)
    unfold wpY_least
    exact jy_colT hc (br_f (by decide) ⟨_, hY _ ⟨rfl, rl_mk C⟩⟩)
  · unfold wpX_least
    refine jx_colF hc (br_t rfl ?_)
    unfold wpY_least
    exact jy_colF hc (br_t rfl ⟨rfl, rl_mk C⟩)
theorem i_vc_ranked {k : Nat} {u : SX} {v : SY} (I : i_Rel k u v) (hk : k + 4 ≤ 2048) (v1 : Int32) (v2 : Int32) : wpX_ranked (fun r => wpY_ranked (fun r' => r' = r ∧ i_Rel (k + 4) u v) v v1 v2) u v1 v2 := by
  obtain ⟨n, p, m, xv, xp, xt, yv, yp, yt, d, cc, cl, ch, rfl, rfl, C⟩ := I
  have hn := C.2.1
  by_cases hc : ∃ c, c < 3 ∧ v1 = nI c
  · obtain ⟨c, hc, rfl⟩ := hc
    unfold wpX_ranked
    refine jx_colT hc (br_f (by decide) ⟨_, jx_ranked13 (rl_VX C) hc (fun a ha => ?_) n 0 (by omega) (fun _ z => absurd z (Nat.not_lt_zero _))⟩)
    unfold wpY_ranked
    exact jy_colT hc (br_f (by decide) ⟨_, jy_ranked13 (rl_VY C) hc (fun b hb => ⟨rk_Ru hn ha hb, rl_mk C⟩) n 0 (by omega) (fun _ z => absurd z (Nat.not_lt_zero _))⟩)
  · unfold wpX_ranked
    refine jx_colF hc (br_t rfl ?_)
    unfold wpY_ranked
    exact jy_colF hc (br_t rfl ⟨rfl, rl_mk C⟩)
theorem i_vc_different {k : Nat} {u : SX} {v : SY} (I : i_Rel k u v) (hk : k + 4 ≤ 2048) (v1 : Int32) : wpX_different (fun r => wpY_different (fun r' => r' = r ∧ i_Rel (k + 4) u v) v v1) u v1 := by
  obtain ⟨n, p, m, xv, xp, xt, yv, yp, yt, d, cc, cl, ch, rfl, rfl, C⟩ := I
  by_cases hc : ∃ c, c < 3 ∧ v1 = nI c
  · obtain ⟨c, hc, rfl⟩ := hc
    obtain ⟨r, hX, hY⟩ := jb_diff (fp := nI p) (xv := xv) (xp := xp) (xt := xt) (yv := yv) (yp := yp) (yt := yt) (d := d) (cl := cl) (ch := ch) (rl_VX C) (rl_VY C) hc n 0 (by omega) 0
    unfold wpX_different
    refine jx_colT hc (br_f (by decide) ⟨_, hX _ ?_⟩)
    unfold wpY_different
    exact jy_colT hc (br_f (by decide) ⟨_, hY _ ⟨rfl, rl_mk C⟩⟩)
  · unfold wpX_different
    refine jx_colF hc (br_t rfl ?_)
    unfold wpY_different
    exact jy_colF hc (br_t rfl ⟨rfl, rl_mk C⟩)
theorem i_vc_commonest {k : Nat} {u : SX} {v : SY} (I : i_Rel k u v) (hk : k + 4 ≤ 2048) (v1 : Int32) : wpX_commonest (fun r => wpY_commonest (fun r' => r' = r ∧ i_Rel (k + 4) u v) v v1) u v1 := by
  obtain ⟨n, p, m, xv, xp, xt, yv, yp, yt, d, cc, cl, ch, rfl, rfl, C⟩ := I
  by_cases hc : ∃ c, c < 3 ∧ v1 = nI c
  · obtain ⟨c, hc, rfl⟩ := hc
    obtain ⟨r, hX, hY⟩ := jb_common (fp := nI p) (xv := xv) (xp := xp) (xt := xt) (yv := yv) (yp := yp) (yt := yt) (d := d) (cl := cl) (ch := ch) (rl_VX C) (rl_VY C) hc rfl n 0 (by omega) none nofun
    unfold wpX_commonest
    refine jx_colT hc (br_f (by decide) ⟨_, hX _ ?_⟩)
    unfold wpY_commonest
    exact jy_colT hc (br_f (by decide) ⟨_, hY _ ⟨rfl, rl_mk C⟩⟩)
  · unfold wpX_commonest
    refine jx_colF hc (br_t rfl ?_)
    unfold wpY_commonest
    exact jy_colF hc (br_t rfl ⟨rfl, rl_mk C⟩)
end
section
/-! the owed statements: those that change the state -/
theorem i_vc_free {k : Nat} {u : SX} {v : SY} (I : i_Rel k u v) (hk : k + 4 ≤ 2048) : wpX_free (fun r u' => wpY_free (fun r' v' => r' = r ∧ i_Rel (k + 4) u' v') v) u := by
  obtain ⟨n, p, m, xv, xp, xt, yv, yp, yt, d, cc, cl, ch, rfl, rfl, C⟩ := I
  obtain ⟨h1, h2, h3, h4, h5, h6, h7, h8, h9⟩ := C
  exact ⟨rfl, rl_mk (m := 0) ⟨h1, h2, by decide, h4, h5, h6, h7, h8, h9⟩⟩
theorem i_vc_condition {k : Nat} {u : SX} {v : SY} (I : i_Rel k u v) (hk : k + 4 ≤ 2048) (v1 : Int32) (v2 : Int32) (v3 : Int32) : wpX_condition (fun r u' => wpY_condition (fun r' v' => r' = r ∧ i_Rel (k + 4) u' v') v v1 v2 v3) u v1 v2 v3 := by
  obtain ⟨n, p, m, xv, xp, xt, yv, yp, yt, d, cc, cl, ch, rfl, rfl, C⟩ := I
  have C0 := C
  obtain ⟨h1, h2, h3, h4, h5, h6, h7, h8, h9⟩ := C
  by_cases hc : ∃ c, c < 3 ∧ v1 = nI c
  · obtain ⟨c, hc, rfl⟩ := hc
    unfold wpX_condition
    refine jx_colT hc (br_f (by decide) ?_)
    by_cases q : m < 4
    · have vi : vp_in (nI m) 4 := vp_in_nI q (by decide)
      refine br_t (nI_lt (b := 4) q (by decide)) ⟨vi, nm_e ⟨vi, nm_e ⟨vi, nm_e (nm_r (nI_1 m) ?_)⟩⟩⟩
      unfold wpY_condition
      refine jy_colT hc (br_f (by decide) (br_f (fun z => ?_) ⟨vi, nm_e ⟨vi, nm_e ⟨vi, nm_e (nm_r (nI_1 m) ⟨rfl, rl_mk ⟨h1, h2, q, fun j => ?_, h5, h6, h7, h8, h9⟩⟩)⟩⟩⟩))
      · have := (nI_eq (b := 4) (by omega) (by decide)).mp z
        omega
      · by_cases z : j = (nI m).toNatClampNeg
        · rw [z, pk_us]
          exact ⟨c, hc, rfl⟩
        · rw [pk_un z]
          exact h4 j
    · refine br_f (nI_nlt (b := 4) (by omega) (by omega)) ?_
      unfold wpY_condition
      refine jy_colT hc (br_f (by decide) (br_t ?_ ⟨rfl, rl_mk C0⟩))
      rw [show m = 4 by omega]
      rfl
  · unfold wpX_condition
    refine jx_colF hc (br_t rfl ?_)
    unfold wpY_condition
    exact jy_colF hc (br_t rfl ⟨rfl, rl_mk C0⟩)
theorem i_vc_delete {k : Nat} {u : SX} {v : SY} (I : i_Rel k u v) (hk : k + 4 ≤ 2048) (v1 : Int32) : wpX_delete (fun r u' => wpY_delete (fun r' v' => r' = r ∧ i_Rel (k + 4) u' v') v v1) u v1 := by
  obtain ⟨n, p, m, xv, xp, xt, yv, yp, yt, d, cc, cl, ch, rfl, rfl, C⟩ := I
  have C0 := C
  obtain ⟨h1, h2, h3, h4, h5, h6, h7, h8, h9⟩ := C
  by_cases hr : ∃ r, r < n ∧ d r = 0 ∧ v1 = nI r
  · obtain ⟨r, hr, hd, rfl⟩ := hr
    have vi : vp_in (nI r) 96 := vp_in_nI (by omega) (by decide)
    have eu : upd d (nI r).toNatClampNeg (vp_nar .boolean 1) = upd d r 1 := by rw [nI_clamp (by omega), pb_1]
    obtain ⟨a, hX, hY⟩ := jb_delete (m := m) (fp := nI p) (xv := xv) (xp := xp) (xt := xt) (yv := yv) (yp := yp) (yt := yt) (d := upd d r 1) (cc := cc) (cl := cl) (ch := ch) h2 n 0 (by omega) 0
    unfold wpX_delete
    refine jx_livT h2 hr hd (br_f (by decide) ⟨vi, nm_r eu ⟨_, hX _ ?_⟩⟩)
    unfold wpY_delete
    refine jy_livT h2 hr hd (br_f (by decide) ⟨vi, nm_r eu ⟨_, hY _ ⟨rfl, rl_mk ⟨h1, h2, h3, h4, fun q hq => ?_, h6, h7, h8, h9⟩⟩⟩⟩)
    rw [pk_un (by omega)]
    exact h5 q hq
  · unfold wpX_delete
    refine jx_livF h2 hr (br_t rfl ?_)
    unfold wpY_delete
    exact jy_livF h2 hr (br_t rfl ⟨rfl, rl_mk C0⟩)
theorem i_vc_compact {k : Nat} {u : SX} {v : SY} (I : i_Rel k u v) (hk : k + 4 ≤ 2048) : wpX_compact (fun r u' => wpY_compact (fun r' v' => r' = r ∧ i_Rel (k + 4) u' v') v) u := by
  obtain ⟨n, p, m, xv, xp, xt, yv, yp, yt, d, cc, cl, ch, rfl, rfl, C⟩ := I
  obtain ⟨h1, h2, h3, h4, h5, h6, h7, h8, h9⟩ := C
  have kn := cp_le d n 0 0 (fun r c => yv (3 * r + c)) (Nat.le_refl _)
  refine jx_compact (V := fun r c => yv (3 * r + c)) h2 h6 rfl (fun xv' xp' xt' x1 x2 x3 => ?_)
  refine jy_compact (V := fun r c => yv (3 * r + c)) h2 (fun _ _ _ _ => rfl) rfl (fun yv' yp' yt' y1 y2 y3 => ⟨rfl, rl_mk (p := 0) ⟨by decide, by omega, h3, h4, fun r hr => ?_, fun r c hr hc => ?_, fun r c hr hc => ?_, fun r c hr hc => ?_, fun r c _ hr hc => ?_⟩⟩)
  · unfold st_w
    by_cases z : r < 96
    · rw [if_pos z]
    · rw [if_neg z, h5 r (by omega)]
  · rw [x1 r c hr hc, y1 r c hr hc]
  · rw [x2 r c hr hc, y2 r c hr hc, x1 r c hr hc, y1 r c hr hc, h7 r c hr hc]
  · rw [x3 _ (by omega), y3 _ (by omega)]
  · exact x3 _ (by omega)
end
section
/-! the owed statements: append and change -/
theorem rl_app {n p m : Nat} {xv xp xt yv yp yt d cc : Nat → Int32} (C : rl_C n p m xv xp xt yv yp yt d cc) (hn : n < 96) (v1 v2 v3 : Int32) : ∀ r c, r < 96 → c < 3 → upd (upd (upd xv n v1) (96 + n) v2) (192 + n) v3 (c * 96 + r) = upd (upd (upd yv (3 * n) v1) (3 * n + 1) v2) (3 * n + 2) v3 (3 * r + c) := by
  have h6 : ∀ r c, True → r < 96 → c < 3 → xv (c * 96 + r) = yv (3 * r + c) := fun r c _ => C.2.2.2.2.2.1 r c
  have a1 := rl_set h6 hn (c0 := 0) (i := n) (j := 3 * n) (by decide) (by omega) (by omega) v1
  have a2 := rl_set a1 hn (c0 := 1) (i := 96 + n) (j := 3 * n + 1) (by decide) (by omega) (by omega) v2
  have a3 := rl_set a2 hn (c0 := 2) (i := 192 + n) (j := 3 * n + 2) (by decide) (by omega) (by omega) v3
  exact fun r c => a3 r c trivial
theorem i_vc_append {k : Nat} {u : SX} {v : SY} (I : i_Rel k u v) (hk : k + 4 ≤ 2048) (v1 : Int32) (v2 : Int32) (v3 : Int32) : wpX_append (fun r u' => wpY_append (fun r' v' => r' = r ∧ i_Rel (k + 4) u' v') v v1 v2 v3) u v1 v2 v3 := by
  obtain ⟨n, p, m, xv, xp, xt, yv, yp, yt, d, cc, cl, ch, rfl, rfl, C⟩ := I
  have C0 := C
  obtain ⟨h1, h2, h3, h4, h5, h6, h7, h8, h9⟩ := C
  by_cases hq : n < 96
  · have vv := rl_app C0 hq v1 v2 v3
    have i1 : vp_in (nI n) 288 := vp_in_nI (by omega) (by decide)
    have e2 : 96 + nI n = nI (96 + n) := nI_add 96 n
    have e3 : 192 + nI n = nI (192 + n) := nI_add 192 n
    have i2 : vp_in (96 + nI n) 288 := by rw [e2]; exact vp_in_nI (by omega) (by decide)
    have i3 : vp_in (192 + nI n) 288 := by rw [e3]; exact vp_in_nI (by omega) (by decide)
    have f1 : 3 * nI n = nI (3 * n) := pk_mul 3 n
    have f2 : 3 * nI n + 1 = nI (3 * n + 1) := by rw [f1]; exact nI_add (3 * n) 1
    have f3 : 3 * nI n + 2 = nI (3 * n + 2) := by rw [f1]; exact nI_add (3 * n) 2
    have j1 : vp_in (3 * nI n) 288 := by rw [f1]; exact vp_in_nI (by omega) (by decide)
    have j2 : vp_in (3 * nI n + 1) 288 := by rw [f2]; exact vp_in_nI (by omega) (by decide)
    have j3 : vp_in (3 * nI n + 2) 288 := by rw [f3]; exact vp_in_nI (by omega) (by decide)
    have j4 : vp_in (nI n) 96 := vp_in_nI (by omega) (by decide)
    have hne : ¬ nI n = 96 := fun z => by have := (nI_eq (b := 96) (by omega) (by decide)).mp z; omega
    have eg : upd d (nI n).toNatClampNeg (vp_nar .boolean 0) = d := by rw [nI_clamp (by omega), pb_0]; exact rl_same (h5 n (Nat.le_refl _))
    refine br_t (nI_lt (b := 96) hq (by decide)) ⟨i1, nm_r (e' := upd xv n v1) (by rw [nI_clamp (by omega)]) ⟨i2, nm_r (e' := upd (upd xv n v1) (96 + n) v2) (by rw [e2, nI_clamp (by omega)]) ⟨i3, nm_r (e' := upd (upd (upd xv n v1) (96 + n) v2) (192 + n) v3) (by rw [e3, nI_clamp (by omega)]) (nm_r (nI_1 n) ⟨ax_16, ?_⟩)⟩⟩⟩
    have toY : ∀ post : Int32 → SY → Prop, (((nI (n + 1) - nI (n + 1) / 16 * 16) = 0 → (¬ (16 : Int32) = 0 ∧ (wpY_pack (fun u => match u with | (f_count, f_patchCount, f_conditions, a_values, a_packed, a_patched, a_gone, a_columns, a_lows, a_highs) => (post (f_count - 1) (f_count, f_patchCount, f_conditions, a_values, a_packed, a_patched, a_gone, a_columns, a_lows, a_highs))) (nI (n + 1), nI p, nI m, upd (upd (upd yv (3 * n) v1) (3 * n + 1) v2) (3 * n + 2) v3, yp, yt, d, cc, cl, ch) ((nI (n + 1) / 16) - 1)))) ∧ (¬ (nI (n + 1) - nI (n + 1) / 16 * 16) = 0 → (post (nI (n + 1) - 1) (nI (n + 1), nI p, nI m, upd (upd (upd yv (3 * n) v1) (3 * n + 1) v2) (3 * n + 2) v3, yp, yt, d, cc, cl, ch)))) → wpY_append post (nI n, nI p, nI m, yv, yp, yt, d, cc, cl, ch) v1 v2 v3 := by
      intro post h
      exact br_f hne ⟨j1, nm_r (e' := upd yv (3 * n) v1) (by rw [f1, nI_clamp (by omega)]) ⟨j2, nm_r (e' := upd (upd yv (3 * n) v1) (3 * n + 1) v2) (by rw [f2, nI_clamp (by omega)]) ⟨j3, nm_r (e' := upd (upd (upd yv (3 * n) v1) (3 * n + 1) v2) (3 * n + 2) v3) (by rw [f3, nI_clamp (by omega)]) ⟨j4, nm_r eg (nm_r (nI_1 n) ⟨ax_16, h⟩)⟩⟩⟩⟩
    by_cases z : (n + 1) % 16 = 0
    · have zr : nI (n + 1) - nI (n + 1) / 16 * 16 = 0 := by rw [ax_r (by omega), z]; rfl
      have ed : nI n / 16 = nI (n / 16) := ax_d h2
      have ed2 : nI (n + 1) / 16 - 1 = nI (n / 16) := by rw [ax_d (by omega), show (n + 1) / 16 = n / 16 + 1 by omega]; exact nI_pred _
      refine br_t zr ⟨ax_16, ?_⟩
      rw [ed]
      refine jx_pack (by omega) (fun xp' hx => toY _ (br_t zr ⟨ax_16, ?_⟩))
      rw [ed2]
      refine jy_pack (by omega) (fun yp' yt' hy1 hy2 => ⟨nI_pred n, rl_mk ⟨h1, hq, h3, h4, fun r hr => h5 r (by omega), vv, fun r c hr hc => ?_, fun r c hr hc => ?_, fun r c hr hr2 hc => h9 r c (by omega) hr2 hc⟩⟩)
      · rw [hx r c hr hc, hy1]
        by_cases y : 16 * (n / 16) ≤ r ∧ r < 16 * (n / 16) + 16
        · rw [if_pos y, if_pos (by omega)]
          exact vv r c hr hc
        · rw [if_neg y, if_neg (by omega)]
          exact h7 r c hr hc
      · rw [hy2]
        by_cases y : 16 * (n / 16) ≤ r
        · rw [if_pos (by omega)]
          exact h9 r c (by omega) (by omega) hc
        · rw [if_neg (by omega)]
          exact h8 r c (by omega) hc
    · have zr : ¬ nI (n + 1) - nI (n + 1) / 16 * 16 = 0 := by
        rw [ax_r (by omega)]
        exact nI_ne0 (by omega) (by omega)
      refine br_f zr (toY _ (br_f zr ⟨nI_pred n, rl_mk ⟨h1, hq, h3, h4, fun r hr => h5 r (by omega), vv, h7, fun r c hr hc => h8 r c (by omega) hc, fun r c hr hr2 hc => h9 r c (by omega) hr2 hc⟩⟩))
  · have hn96 : n = 96 := by omega
    refine br_f (nI_nlt (b := 96) (by omega) (by omega)) (br_t ?_ ⟨rfl, rl_mk C0⟩)
    rw [hn96]
    rfl
theorem i_vc_change {k : Nat} {u : SX} {v : SY} (I : i_Rel k u v) (hk : k + 4 ≤ 2048) (v1 : Int32) (v2 : Int32) (v3 : Int32) : wpX_change (fun r u' => wpY_change (fun r' v' => r' = r ∧ i_Rel (k + 4) u' v') v v1 v2 v3) u v1 v2 v3 := by
  obtain ⟨n, p, m, xv, xp, xt, yv, yp, yt, d, cc, cl, ch, rfl, rfl, C⟩ := I
  have C0 := C
  obtain ⟨h1, h2, h3, h4, h5, h6, h7, h8, h9⟩ := C
  by_cases hc : ∃ c, c < 3 ∧ v2 = nI c
  · obtain ⟨c, hc, rfl⟩ := hc
    unfold wpX_change
    refine jx_colT hc (br_f (by decide) ?_)
    by_cases hr : ∃ r, r < n ∧ d r = 0 ∧ v1 = nI r
    · obtain ⟨r, hr, hd, rfl⟩ := hr
      have r96 : r < 96 := by omega
      have xi : vp_in (nI (c * 96 + r)) 288 := vp_in_nI (by omega) (by decide)
      have yi : vp_in (nI (3 * r + c)) 288 := vp_in_nI (by omega) (by decide)
      have xc : (nI (c * 96 + r)).toNatClampNeg = c * 96 + r := nI_clamp (by omega)
      have yc : (nI (3 * r + c)).toNatClampNeg = 3 * r + c := nI_clamp (by omega)
      have xe : xv (nI (c * 96 + r)).toNatClampNeg = yv (3 * r + c) := by rw [xc]; exact h6 r c r96 hc
      have er : nI r / 16 = nI (r / 16) := ax_d (by omega)
      have en : nI n / 16 = nI (n / 16) := ax_d h2
      have vset : ∀ r' c', r' < 96 → c' < 3 → upd xv (c * 96 + r) v3 (c' * 96 + r') = upd yv (3 * r + c) v3 (3 * r' + c') := fun r' c' => rl_set (R := fun _ => True) (fun r c _ => h6 r c) r96 hc rfl rfl v3 r' c' trivial
      -- Y's walk down to the four ends
      have toY : ∀ post : Int32 → SY → Prop, ((nI (n / 16) ≤ nI (r / 16) → wY_change_69 post v3 (nI (3 * r + c)) (yv (3 * r + c)) (nI n) (nI p) (nI m) yv yp yt d cc cl ch) ∧ (¬ nI (n / 16) ≤ nI (r / 16) → (((yv (3 * r + c) = v3 → wY_change_69 post v3 (nI (3 * r + c)) (yv (3 * r + c)) (nI n) (nI p) (nI m) yv yp yt d cc cl ch) ∧ (¬ yv (3 * r + c) = v3 → ((yt (3 * r + c) = 0 → wY_change_70 post v3 (nI (3 * r + c)) (yv (3 * r + c)) 1 (nI n) (nI p) (nI m) yv yp yt d cc cl ch) ∧ (¬ yt (3 * r + c) = 0 → wY_change_69 post v3 (nI (3 * r + c)) (yv (3 * r + c)) (nI n) (nI p) (nI m) yv yp yt d cc cl ch))))))) → wpY_change post (nI n, nI p, nI m, yv, yp, yt, d, cc, cl, ch) (nI r) (nI c) v3 := by
        intro post h
        unfold wpY_change
        refine jy_colT hc (br_f (by decide) (jy_livT h2 hr hd (br_f (by decide) (nm_r (ax_y r c) ⟨yi, nm_r (e' := yv (3 * r + c)) (by rw [yc]) ⟨ax_16, ?_⟩⟩))))
        refine by_bc h2 ?_
        rw [er]
        refine br_c h.1 (fun z => br_c (h.2 z).1 (fun y => ⟨yi, ?_⟩))
        rw [yc]
        exact (h.2 z).2 y
      have to69 : ∀ post : Int32 → SY → Prop, post (yv (3 * r + c)) (nI n, nI p, nI m, upd yv (3 * r + c) v3, yp, yt, d, cc, cl, ch) → wY_change_69 post v3 (nI (3 * r + c)) (yv (3 * r + c)) (nI n) (nI p) (nI m) yv yp yt d cc cl ch := by
        intro post h
        exact br_t rfl (br_t rfl ⟨yi, nm_r (e' := upd yv (3 * r + c) v3) (by rw [yc]) h⟩)
      have Cv : rl_C n p m (upd xv (c * 96 + r) v3) xp xt (upd yv (3 * r + c) v3) yp yt d cc := ⟨h1, h2, h3, h4, h5, vset, h7, h8, h9⟩
      refine jx_livT h2 hr hd (br_f (by decide) (nm_r (ax_x c r) ⟨xi, nm_r xe ?_⟩))
      by_cases hs : yv (3 * r + c) = v3
      · refine br_t hs (toY _ ?_)
        have to0 : ∀ post : Int32 → SY → Prop, post (yv (3 * r + c)) (nI n, nI p, nI m, yv, yp, yt, d, cc, cl, ch) → wY_change_69 post v3 (nI (3 * r + c)) (yv (3 * r + c)) (nI n) (nI p) (nI m) yv yp yt d cc cl ch := by
          intro post h
          apply to69
          rw [rl_same hs]
          exact h
        exact br_c (fun _ => to0 _ ⟨rfl, rl_mk C0⟩) (fun _ => br_t hs (to0 _ ⟨rfl, rl_mk C0⟩))
      · refine br_f hs ⟨ax_16, ax_16, ?_⟩
        rw [er, en]
        by_cases hb : n / 16 ≤ r / 16
        · have hb' : nI (n / 16) ≤ nI (r / 16) := nI_le hb (by omega)
          refine br_t hb' (br_t rfl ⟨xi, nm_r (e' := upd xv (c * 96 + r) v3) (by rw [xc]) (toY _ (br_t hb' (to69 _ ⟨rfl, rl_mk Cv⟩)))⟩)
        · have hb' : ¬ nI (n / 16) ≤ nI (r / 16) := nI_ge (by omega) (by omega)
          have ht : xt (c * 96 + r) = yt (3 * r + c) := h8 r c (by omega) hc
          refine br_f hb' (br_f (by decide) ⟨xi, ?_⟩)
          rw [xc, ht]
          by_cases hz : yt (3 * r + c) = 0
          · refine br_t hz ?_
            by_cases hp : p < 20
            · have hp2 : ¬ nI p = 20 := fun z => by have := (nI_eq (b := 20) (by omega) (by decide)).mp z; omega
              have C2 : rl_C n (p + 1) m (upd xv (c * 96 + r) v3) xp (upd xt (c * 96 + r) 1) (upd yv (3 * r + c) v3) yp (upd yt (3 * r + c) 1) d cc := by
                refine ⟨hp, h2, h3, h4, h5, vset, h7, fun r' c' hr' hc' => ?_, fun r' c' hr' hr2 hc' => ?_⟩
                · exact rl_set (R := fun r => r < n / 16 * 16) (fun r c a _ b => h8 r c a b) r96 hc rfl rfl 1 r' c' hr' (by omega) hc'
                · rw [pk_un (by omega)]
                  exact h9 r' c' hr' hr2 hc'
              refine br_t (nI_lt (b := 20) hp (by decide)) ⟨xi, nm_r (e' := upd xt (c * 96 + r) 1) (by rw [pb_1]) (nm_r (nI_1 p) ⟨xi, nm_e (toY _ (br_f hb' (br_f hs (br_t hz ?_))))⟩)⟩
              refine br_f (by decide) (br_f hp2 (br_f (by decide) ⟨yi, nm_r (e' := upd yt (3 * r + c) 1) (by rw [yc, pb_1]) (nm_r (nI_1 p) ⟨yi, nm_r (e' := upd yv (3 * r + c) v3) (by rw [yc]) ⟨rfl, rl_mk C2⟩⟩)⟩))
            · have hp1 : nI p = 20 := by rw [show p = 20 by omega]; rfl
              exact br_f (nI_nlt (b := 20) (by omega) (by omega)) (toY _ (br_f hb' (br_f hs (br_t hz (br_f (by decide) (br_t hp1 ⟨rfl, rl_mk C0⟩))))))
          · exact br_f hz ⟨xi, nm_e (toY _ (br_f hb' (br_f hs (br_f hz (to69 _ ⟨rfl, rl_mk Cv⟩)))))⟩
    · refine jx_livF h2 hr (br_t rfl ?_)
      unfold wpY_change
      exact jy_colT hc (br_f (by decide) (jy_livF h2 hr (br_t rfl ⟨rfl, rl_mk C0⟩)))
  · unfold wpX_change
    refine jx_colF hc (br_t rfl ?_)
    unfold wpY_change
    exact jy_colF hc (br_t rfl ⟨rfl, rl_mk C0⟩)
end
