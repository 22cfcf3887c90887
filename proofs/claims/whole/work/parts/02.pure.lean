/-! the pure picture: numbers, conditions, chosen rows, counts -/
def pb_I : Bool → Int32
  | true => 1
  | false => 0
theorem pb_n (b : Bool) : narrow .boolean (.int (pb_I b)) = .int (pb_I b) := by cases b <;> rfl
theorem pb_0 : vp_nar .boolean 0 = 0 := rfl
theorem pb_1 : vp_nar .boolean 1 = 1 := rfl
theorem ax_x (c r : Nat) : (nI c * 96) + nI r = nI (c * 96 + r) := by
  show nI c * nI 96 + nI r = _
  rw [pk_mul, nI_add]
theorem ax_y (r c : Nat) : (3 * nI r) + nI c = nI (3 * r + c) := by
  show nI 3 * nI r + nI c = _
  rw [pk_mul, nI_add]
theorem ax_s (b c : Nat) : (nI c * 96) + (nI b * 16) = nI (c * 96 + b * 16) := by
  show nI c * nI 96 + nI b * nI 16 = _
  rw [pk_mul, pk_mul, nI_add]
theorem ax_p (b i c : Nat) : ((48 * nI b) + (3 * nI i)) + nI c = nI (48 * b + 3 * i + c) := by
  show nI 48 * nI b + nI 3 * nI i + nI c = _
  rw [pk_mul, pk_mul, nI_add, nI_add]
theorem ax_d {n : Nat} (h : n ≤ 96) : nI n / 16 = nI (n / 16) := pk_div (d := 16) (by omega) (by decide) (by decide)
theorem ax_r {n : Nat} (h : n ≤ 96) : nI n - nI n / 16 * 16 = nI (n % 16) := pk_rem (d := 16) (by omega) (by decide) (by decide)
theorem ax_16 : ¬ (16 : Int32) = 0 := by decide
def pu_met (cl ch : Nat → Int32) (j : Nat) (x : Int32) : Bool := !decide (x < cl j) && !decide (ch j < x)
def pu_all (f : Nat → Bool) : Nat → Nat → Bool
  | 0, _ => true
  | e + 1, j => f j && pu_all f e (j + 1)
def pu_ck (m : Nat) (d cc cl ch : Nat → Int32) (V : Nat → Nat → Int32) (r : Nat) : Bool :=
  decide (d r = 0) && pu_all (fun j => pu_met cl ch j (V r (cc j).toNatClampNeg)) m 0
/-- the number of q below i with P q -/
def pu_cn (P : Nat → Bool) : Nat → Nat
  | 0 => 0
  | i + 1 => pu_cn P i + (if P i then 1 else 0)
theorem pu_cn_t {P : Nat → Bool} {i : Nat} (h : P i = true) : pu_cn P (i + 1) = pu_cn P i + 1 := by simp [pu_cn, h]
theorem pu_cn_f {P : Nat → Bool} {i : Nat} (h : P i = false) : pu_cn P (i + 1) = pu_cn P i := by simp [pu_cn, h]
theorem pu_cn_le (P : Nat → Bool) : ∀ i, pu_cn P i ≤ i
  | 0 => Nat.le_refl _
  | i + 1 => by
    have := pu_cn_le P i
    unfold pu_cn
    split <;> omega
theorem pu_cn_mono (P : Nat → Bool) (i : Nat) : ∀ e, pu_cn P i ≤ pu_cn P (i + e)
  | 0 => Nat.le_refl _
  | e + 1 => by
    have := pu_cn_mono P i e
    show _ ≤ pu_cn P (i + e) + _
    omega
theorem pu_cn_mono' (P : Nat → Bool) {i n : Nat} (h : i ≤ n) : pu_cn P i ≤ pu_cn P n := by
  have := pu_cn_mono P i (n - i)
  rwa [show i + (n - i) = n from by omega] at this
theorem pu_cn_lt {P : Nat → Bool} {i n : Nat} (h : i < n) (hi : P i = true) : pu_cn P i < pu_cn P n := by
  have := pu_cn_mono' P (i := i + 1) (n := n) h
  rw [pu_cn_t hi] at this
  omega
theorem pu_cn_sub {P Q : Nat → Bool} : ∀ n, (∀ i, i < n → P i = true → Q i = true) → pu_cn P n ≤ pu_cn Q n
  | 0, _ => Nat.le_refl _
  | n + 1, h => by
    have ih := pu_cn_sub n (fun i hi => h i (by omega))
    have hn := h n (by omega)
    unfold pu_cn
    cases hp : P n with
    | false => simp; omega
    | true => rw [hn hp]; simp; omega
theorem pu_cn_add {P Q R : Nat → Bool} : ∀ n, (∀ i, i < n → R i = (P i || Q i)) → (∀ i, i < n → ¬ (P i = true ∧ Q i = true)) → pu_cn R n = pu_cn P n + pu_cn Q n
  | 0, _, _ => rfl
  | n + 1, h, g => by
    have ih := pu_cn_add n (fun i hi => h i (by omega)) (fun i hi => g i (by omega))
    have hn := h n (by omega)
    have gn := g n (by omega)
    unfold pu_cn
    rw [ih, hn]
    cases hp : P n <;> cases hq : Q n <;> simp_all <;> omega
/-- each number below the count is reached at a counted place -/
theorem pu_cn_hit {P : Nat → Bool} : ∀ n t, t < pu_cn P n → ∃ i, i < n ∧ P i = true ∧ pu_cn P i = t
  | 0, t, h => by simp [pu_cn] at h
  | n + 1, t, h => by
    by_cases h2 : t < pu_cn P n
    · obtain ⟨i, hi, e⟩ := pu_cn_hit n t h2
      exact ⟨i, by omega, e⟩
    · cases hp : P n with
      | false => rw [pu_cn_f hp] at h; omega
      | true => rw [pu_cn_t hp] at h; exact ⟨n, by omega, hp, by omega⟩
theorem pu_cn_0 {P : Nat → Bool} : ∀ n, pu_cn P n = 0 ↔ ∀ i, i < n → P i = false
  | 0 => ⟨fun _ i hi => by omega, fun _ => rfl⟩
  | n + 1 => by
    have ih := pu_cn_0 (P := P) n
    constructor
    · intro h i hi
      cases hp : P i with
      | false => rfl
      | true =>
        have := pu_cn_lt hi hp
        omega
    · intro h
      have hn := h n (by omega)
      rw [pu_cn_f hn]
      exact ih.mpr (fun i hi => h i (by omega))
/-- what X's side holds: rows, conditions, values -/
def jx_H (n m : Nat) (xv cc : Nat → Int32) (V : Nat → Nat → Int32) : Prop :=
  n ≤ 96 ∧ m ≤ 4 ∧ (∀ j, ∃ c, c < 3 ∧ cc j = nI c) ∧ ∀ r c, r < 96 → c < 3 → xv (c * 96 + r) = V r c
def jy_H (n m : Nat) (yv cc : Nat → Int32) (V : Nat → Nat → Int32) : Prop :=
  n ≤ 96 ∧ m ≤ 4 ∧ (∀ j, ∃ c, c < 3 ∧ cc j = nI c) ∧ ∀ r c, r < 96 → c < 3 → yv (3 * r + c) = V r c
/-- a value of X: column c of row r -/
theorem jx_v {n m : Nat} {xv cc : Nat → Int32} {V : Nat → Nat → Int32} (H : jx_H n m xv cc V) {r c : Nat} (hr : r < 96) (hc : c < 3) : xv ((nI c * 96) + nI r).toNatClampNeg = V r c := by
  rw [ax_x, nI_clamp (by omega)]
  exact H.2.2.2 r c hr hc
theorem jx_i {r c : Nat} (hr : r < 96) (hc : c < 3) : vp_in ((nI c * 96) + nI r) 288 := by
  rw [ax_x]
  exact vp_in_nI (by omega) (by decide)
theorem jy_v {n m : Nat} {yv cc : Nat → Int32} {V : Nat → Nat → Int32} (H : jy_H n m yv cc V) {r c : Nat} (hr : r < 96) (hc : c < 3) : yv ((3 * nI r) + nI c).toNatClampNeg = V r c := by
  rw [ax_y, nI_clamp (by omega)]
  exact H.2.2.2 r c hr hc
theorem jy_i {r c : Nat} (hr : r < 96) (hc : c < 3) : vp_in ((3 * nI r) + nI c) 288 := by
  rw [ax_y]
  exact vp_in_nI (by omega) (by decide)
