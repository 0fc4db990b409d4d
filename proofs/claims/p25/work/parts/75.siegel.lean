/-! ===== small whole vectors on which some rows vanish ===== -/
theorem z_digits {B : Nat} (hB : 0 < B) : ∀ (d i j : Nat), i < B ^ d → j < B ^ d → (∀ k, k < d → i / B ^ k % B = j / B ^ k % B) → i = j := by
  intro d
  induction d with
  | zero => intro i j hi hj _; simp at hi hj; omega
  | succ d ih =>
    intro i j hi hj h
    have e : i / B = j / B := ih (i / B) (j / B) (Nat.div_lt_of_lt_mul (by rw [Nat.pow_succ, Nat.mul_comm] at hi; exact hi)) (Nat.div_lt_of_lt_mul (by rw [Nat.pow_succ, Nat.mul_comm] at hj; exact hj)) (fun k hk => by
      have := h (k + 1) (by omega)
      rw [Nat.pow_succ, Nat.mul_comm, ← Nat.div_div_eq_div_mul, ← Nat.div_div_eq_div_mul] at this
      exact this)
    have e0 := h 0 (by omega)
    rw [Nat.pow_zero, Nat.div_one, Nat.div_one] at e0
    have h1 := Nat.div_add_mod i B
    have h2 := Nat.div_add_mod j B
    rw [← h1, ← h2, e, e0]
def z_l1 (d : Nat) (a : Nat → Int) : Nat := match d with
  | 0 => 0
  | d + 1 => z_l1 d a + (a d).natAbs
def z_neg (d : Nat) (a : Nat → Int) : Int := match d with
  | 0 => 0
  | d + 1 => z_neg d a + (if a d < 0 then -a d else 0)
theorem z_val {X : Nat} {a v : Nat → Int} : ∀ d : Nat, (∀ k, k < d → 0 ≤ v k ∧ v k ≤ X) → 0 ≤ z_dot d a v + X * z_neg d a ∧ z_dot d a v + X * z_neg d a ≤ X * z_l1 d a := by
  intro d
  induction d with
  | zero => intro _; simp [z_dot, z_sum, z_neg, z_l1]
  | succ d ih =>
    intro h
    have i := ih (fun k hk => h k (by omega))
    have hd := h d (by omega)
    have e : z_dot (d + 1) a v = z_dot d a v + v d * a d := rfl
    rw [e]
    unfold z_neg z_l1
    rw [Int.mul_add, Int.natCast_add, Int.mul_add]
    by_cases ha : a d < 0
    · rw [if_pos ha]
      have e2 : ((a d).natAbs : Int) = -a d := by omega
      rw [e2]
      have h1 : 0 ≤ (X - v d) * -a d := Int.mul_nonneg (by omega) (by omega)
      have h2 : 0 ≤ v d * -a d := Int.mul_nonneg (by omega) (by omega)
      rw [Int.sub_mul] at h1
      rw [Int.mul_neg] at h1 h2 ⊢
      rw [Int.mul_neg] at h1
      omega
    · rw [if_neg ha]
      have e2 : ((a d).natAbs : Int) = a d := by omega
      rw [e2, Int.mul_zero]
      have h1 : 0 ≤ (X - v d) * a d := Int.mul_nonneg (by omega) (by omega)
      have h2 : 0 ≤ v d * a d := Int.mul_nonneg (by omega) (by omega)
      rw [Int.sub_mul] at h1
      omega
def z_prod (m : Nat) (f : Nat → Nat) : Nat := match m with
  | 0 => 1
  | m + 1 => z_prod m f * f m
/-- a vector's values on all rows, in one number -/
def z_code (m : Nat) (V : Nat → Nat) (f : Nat → Nat) : Nat := match m with
  | 0 => 0
  | m + 1 => z_code m V f * V m + f m
theorem z_code_lt {V f : Nat → Nat} : ∀ m : Nat, (∀ r, r < m → f r < V r) → z_code m V f < z_prod m V := by
  intro m
  induction m with
  | zero => intro _; exact Nat.zero_lt_one
  | succ m ih =>
    intro h
    have i := ih (fun r hr => h r (by omega))
    have hm := h m (by omega)
    unfold z_code z_prod
    calc z_code m V f * V m + f m < z_code m V f * V m + V m := by omega
      _ = (z_code m V f + 1) * V m := by rw [Nat.add_mul, Nat.one_mul]
      _ ≤ z_prod m V * V m := Nat.mul_le_mul_right _ i
theorem z_code_inj {V f g : Nat → Nat} : ∀ m : Nat, (∀ r, r < m → f r < V r ∧ g r < V r) → z_code m V f = z_code m V g → ∀ r, r < m → f r = g r := by
  intro m
  induction m with
  | zero => intro _ _ r hr; omega
  | succ m ih =>
    intro h e r hr
    unfold z_code at e
    have hm := h m (by omega)
    have e1 : z_code m V f = z_code m V g := by
      have h1 : (z_code m V f * V m + f m) / V m = z_code m V f := by rw [Nat.mul_comm, Nat.mul_add_div (by omega), Nat.div_eq_of_lt hm.1, Nat.add_zero]
      have h2 : (z_code m V g * V m + g m) / V m = z_code m V g := by rw [Nat.mul_comm, Nat.mul_add_div (by omega), Nat.div_eq_of_lt hm.2, Nat.add_zero]
      rw [← h1, ← h2, e]
    by_cases er : r = m
    · rw [er]
      rw [e1] at e
      omega
    · exact ih (fun r hr => h r (by omega)) e1 r (by omega)
theorem z_siegel {d m X : Nat} {R : Nat → Nat → Int} (hd : d = m + 1) {L : Nat → Nat} (hL1 : ∀ r, r < m → z_l1 d (R r) ≤ L r ∧ 1 ≤ L r) (hL2 : z_prod m L ≤ X) : ∃ x : Nat → Int, (∃ k, k < d ∧ x k ≠ 0) ∧ (∀ k, k < d → (x k).natAbs ≤ X) ∧ ∀ r, r < m → z_dot d (R r) x = 0 := by
  let B := X + 1
  have hB : 0 < B := Nat.succ_pos _
  let pt : Nat → Nat → Int := fun p k => ((p / B ^ k % B : Nat) : Int)
  have hpt : ∀ p k, 0 ≤ pt p k ∧ pt p k ≤ X := fun p k => by
    have : p / B ^ k % B < B := Nat.mod_lt _ hB
    show 0 ≤ ((p / B ^ k % B : Nat) : Int) ∧ ((p / B ^ k % B : Nat) : Int) ≤ X
    omega
  let f : Nat → Nat → Nat := fun p r => (z_dot d (R r) (pt p) + X * z_neg d (R r)).toNat
  let V : Nat → Nat := fun r => X * L r + 1
  have hf : ∀ p r, r < m → ((f p r : Nat) : Int) = z_dot d (R r) (pt p) + X * z_neg d (R r) ∧ f p r < V r := fun p r hr => by
    have h1 := z_val (X := X) (a := R r) (v := pt p) d (fun k _ => hpt p k)
    have h2 := (hL1 r hr).1
    have h3 : X * z_l1 d (R r) ≤ X * L r := Nat.mul_le_mul_left _ h2
    have h4 : ((X * z_l1 d (R r) : Nat) : Int) ≤ ((X * L r : Nat) : Int) := by omega
    rw [Int.natCast_mul, Int.natCast_mul] at h4
    have h5 : ((f p r : Nat) : Int) = z_dot d (R r) (pt p) + X * z_neg d (R r) := Int.toNat_of_nonneg h1.1
    refine ⟨h5, ?_⟩
    show f p r < X * L r + 1
    have h6 : ((f p r : Nat) : Int) ≤ ((X * L r : Nat) : Int) := by rw [h5, Int.natCast_mul]; omega
    omega
  have hP : z_prod m V < B ^ d := by
    have key : ∀ j, j ≤ m → z_prod j V ≤ z_prod j L * B ^ j := by
      intro j
      induction j with
      | zero => intro _; simp [z_prod]
      | succ j ih =>
        intro hj
        have h1 := ih (by omega)
        have h2 := (hL1 j (by omega)).2
        unfold z_prod
        have h3 : V j ≤ L j * B := by
          show X * L j + 1 ≤ L j * (X + 1)
          rw [Nat.mul_add, Nat.mul_one, Nat.mul_comm]
          omega
        calc z_prod j V * V j ≤ (z_prod j L * B ^ j) * (L j * B) := Nat.mul_le_mul h1 h3
          _ = z_prod j L * L j * B ^ (j + 1) := by rw [Nat.pow_succ]; ac_rfl
    have h1 := key m (Nat.le_refl _)
    rw [hd, Nat.pow_succ]
    calc z_prod m V ≤ z_prod m L * B ^ m := h1
      _ ≤ X * B ^ m := Nat.mul_le_mul_right _ hL2
      _ < B * B ^ m := Nat.mul_lt_mul_of_pos_right (Nat.lt_succ_self X) (Nat.pow_pos hB)
      _ = B ^ m * B := Nat.mul_comm _ _
  have hE : ∃ i j, i < j ∧ j < B ^ d ∧ z_code m V (f i) = z_code m V (f j) := Classical.byContradiction (fun z => by
    have := z_php (z_prod m V) (B ^ d) (fun i => z_code m V (f i)) (fun i _ => z_code_lt m (fun r hr => (hf i r hr).2)) (fun i j hij hj e => z ⟨i, j, hij, hj, e⟩)
    omega)
  obtain ⟨i, j, hij, hj, e⟩ := hE
  have ev := z_code_inj m (fun r hr => ⟨(hf i r hr).2, (hf j r hr).2⟩) e
  refine ⟨fun k => pt j k + -1 * pt i k, ?_, fun k hk => ?_, fun r hr => ?_⟩
  · refine Classical.byContradiction (fun z => ?_)
    have : i = j := z_digits hB d i j (by omega) hj (fun k hk => Classical.byContradiction (fun z2 => z ⟨k, hk, fun z3 => z2 (by
      have h1 : pt j k + -1 * pt i k = 0 := z3
      have h2 : pt j k = ((j / B ^ k % B : Nat) : Int) := rfl
      have h3 : pt i k = ((i / B ^ k % B : Nat) : Int) := rfl
      omega)⟩))
    omega
  · have h1 := hpt i k
    have h2 := hpt j k
    show (pt j k + -1 * pt i k).natAbs ≤ X
    omega
  · have h1 := z_dot_lin d (R r) (pt j) (pt i) 1 (-1)
    simp only [Int.one_mul] at h1
    rw [h1]
    have h2 := (hf i r hr).1
    have h3 := (hf j r hr).1
    rw [ev r hr] at h2
    omega
/-- the primitive vector on a line is no longer than any other whole one -/
theorem z_shortest {d X : Nat} {v x : Nat → Int} {a b : Int} (hv : z_prim d v) (hx : ∃ k, k < d ∧ x k ≠ 0) (ha : a ≠ 0) (e : ∀ k, k < d → a * x k = b * v k) (hX : ∀ k, k < d → (x k).natAbs ≤ X) : ∀ k, k < d → (v k).natAbs ≤ X := by
  have h := z_gcd_congr (v := fun k => a * x k) (w := fun k => b * v k) d e
  rw [z_gcd_mul, z_gcd_mul, hv.g, Nat.mul_one] at h
  have hg : 0 < z_gcd d x := by
    rcases Nat.eq_zero_or_pos (z_gcd d x) with h | h
    · obtain ⟨k, hk, hn⟩ := hx
      exact absurd (z_gcd_0 h k hk) hn
    · exact h
  intro k hk
  have h1 := congrArg Int.natAbs (e k hk)
  rw [Int.natAbs_mul, Int.natAbs_mul, ← h] at h1
  have h2 : (x k).natAbs = z_gcd d x * (v k).natAbs := by
    rw [Nat.mul_assoc] at h1
    exact Nat.eq_of_mul_eq_mul_left (by omega) h1
  have h3 := hX k hk
  rw [h2] at h3
  calc (v k).natAbs = 1 * (v k).natAbs := (Nat.one_mul _).symm
    _ ≤ z_gcd d x * (v k).natAbs := Nat.mul_le_mul_right _ hg
    _ ≤ X := h3

