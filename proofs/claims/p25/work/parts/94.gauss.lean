/-! ===== elimination: what holds of the rows, and how large they are ===== -/
/-- after c columns there are j pivots; T are the rows as they stand, R those that they came from -/
def gI (d m c j : Nat) (piv : Nat → Nat) (T R : Nat → Nat → Int) : Prop := (∀ i, i < j → piv i < c) ∧ (∀ i i', i < i' → i' < j → piv i ≠ piv i') ∧ (∀ i, i < j → T i (piv i) ≠ 0) ∧ (∀ i l, i < m → l < j → l ≠ i → T i (piv l) = 0) ∧ (∀ i, j ≤ i → i < m → ∀ k, k < c → T i k = 0) ∧ (∀ i, i < m → ∃ (a b : Int) (β : Nat → Int), a ≠ 0 ∧ (j ≤ i → b ≠ 0) ∧ ∀ k, k < d → a * T i k = b * R i k + z_sum j (fun l => β l * R l k)) ∧ (∀ μ : Nat → Int, (∀ i, i < j → z_sum j (fun l => μ l * R l (piv i)) = 0) → ∀ l, l < j → μ l = 0) ∧ (∀ w, (∀ i, i < m → z_dot d (T i) w = 0) ↔ ∀ i, i < m → z_dot d (R i) w = 0) ∧ (∀ i, i < m → (∀ k, k < d → T i k = 0) ∨ z_prim d (T i) ∨ ∀ k, k < d → (T i k).natAbs ≤ 18) ∧ j ≤ m ∧ c ≤ d
section gauss
variable {d m c j : Nat} {piv : Nat → Nat} {T R : Nat → Nat → Int}
theorem z_sum_sub (n : Nat) (f g : Nat → Int) : z_sum n (fun k => f k - g k) = z_sum n f - z_sum n g := by
  have h1 := z_sum_mul n (-1) g
  have h2 := z_sum_add n f (fun k => -1 * g k)
  rw [h1] at h2
  rw [← z_sum_congr (f := fun k => f k + -1 * g k) (fun k _ => by omega), h2]
  omega
end gauss
