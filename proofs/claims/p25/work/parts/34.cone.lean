/-! ===== cones of whole numbers: d cells, n rows A, the first d of them the cells themselves ===== -/
def z_sum (n : Nat) (f : Nat → Int) : Int := match n with
  | 0 => 0
  | n + 1 => z_sum n f + f n
def z_dot (d : Nat) (a v : Nat → Int) : Int := z_sum d fun k => v k * a k
def z_feas (d n : Nat) (A : Nat → Nat → Int) (v : Nat → Int) : Prop := ∀ i, i < n → 0 ≤ z_dot d (A i) v
/-- nothing but its multiples vanishes where v does -/
def z_ker (d n : Nat) (A : Nat → Nat → Int) (v : Nat → Int) : Prop := ∀ w, (∀ i, i < n → z_dot d (A i) v = 0 → z_dot d (A i) w = 0) → ∃ a b : Int, a ≠ 0 ∧ ∀ k, k < d → a * w k = b * v k
def z_prim (d : Nat) (v : Nat → Int) : Prop := (∃ k, k < d ∧ v k ≠ 0) ∧ ∀ p : Int, (∀ k, k < d → p ∣ v k) → p ∣ 1
def z_ext (d n : Nat) (A : Nat → Nat → Int) (v : Nat → Int) : Prop := z_feas d n A v ∧ z_prim d v ∧ z_ker d n A v
/-- v comes before w: by the odds of the first cell in which they differ -/
def z_bef (d : Nat) (v w : Nat → Int) : Prop := ∃ k, k < d ∧ (∀ j, j < k → v j * z_sum d w = w j * z_sum d v) ∧ w k * z_sum d v < v k * z_sum d w
/-- the rows of a game: its cells, then its inequalities -/
def z_row (c : Nat) (g : Nat → Nat → Int32) (i k : Nat) : Int := if i < 2 * c then (if i = k then 1 else 0) else (q_ls c g (i - 2 * c) k).toInt
def z_list (c : Nat) (g : Nat → Nat → Int32) (E : Nat × (Nat → Nat → Int64)) : Prop := (0 < E.1 ∧ E.1 ≤ 128) ∧ (∀ i, i < E.1 → z_ext (2 * c) (2 * c + q_nq c) (z_row c g) (fun k => (E.2 i k).toInt) ∧ ∀ k, 2 * c ≤ k → E.2 i k = 0) ∧ (∀ v, z_ext (2 * c) (2 * c + q_nq c) (z_row c g) v → ∃ i, i < E.1 ∧ ∀ k, k < 2 * c → (E.2 i k).toInt = v k) ∧ ∀ i j, i < j → j < E.1 → z_bef (2 * c) (fun k => (E.2 i k).toInt) (fun k => (E.2 j k).toInt)
/-- the sum of the weights of an extreme dice -/
def j_sum (n : Nat) (f : Nat → Int64) : Int64 := match n with
  | 0 => 0
  | n + 1 => j_sum n f + f n
theorem z_sum_congr {n : Nat} {f g : Nat → Int} (h : ∀ k, k < n → f k = g k) : z_sum n f = z_sum n g := by
  induction n with
  | zero => rfl
  | succ n ih =>
    unfold z_sum
    rw [ih (fun k hk => h k (by omega)), h n (by omega)]
theorem z_sum_add (n : Nat) (f g : Nat → Int) : z_sum n (fun k => f k + g k) = z_sum n f + z_sum n g := by
  induction n with
  | zero => rfl
  | succ n ih => unfold z_sum; rw [ih]; omega
theorem z_sum_mul (n : Nat) (c : Int) (f : Nat → Int) : z_sum n (fun k => c * f k) = c * z_sum n f := by
  induction n with
  | zero => simp [z_sum]
  | succ n ih => unfold z_sum; rw [ih, Int.mul_add]
theorem z_sum_0 (n : Nat) : z_sum n (fun _ => 0) = 0 := by
  induction n with
  | zero => rfl
  | succ n ih => unfold z_sum; rw [ih]; rfl
theorem z_sum_nn {n : Nat} {f : Nat → Int} (h : ∀ k, k < n → 0 ≤ f k) : 0 ≤ z_sum n f := by
  induction n with
  | zero => exact Int.le_refl _
  | succ n ih =>
    unfold z_sum
    have := ih (fun k hk => h k (by omega))
    have := h n (by omega)
    omega
theorem z_sum_ge {n : Nat} {f : Nat → Int} (h : ∀ k, k < n → 0 ≤ f k) : ∀ k, k < n → f k ≤ z_sum n f := by
  induction n with
  | zero => intro k hk; omega
  | succ n ih =>
    intro k hk
    have h0 := z_sum_nn (n := n) (f := f) (fun k hk => h k (by omega))
    have h1 := h n (by omega)
    unfold z_sum
    by_cases e : k = n
    · subst e; omega
    · have := ih (fun k hk => h k (by omega)) k (by omega)
      omega
theorem z_dot_lin (d : Nat) (a v w : Nat → Int) (x y : Int) : z_dot d a (fun k => x * v k + y * w k) = x * z_dot d a v + y * z_dot d a w := by
  unfold z_dot
  rw [← z_sum_mul, ← z_sum_mul, ← z_sum_add]
  exact z_sum_congr (fun k _ => by rw [Int.add_mul, Int.mul_assoc, Int.mul_assoc])
theorem z_dot_congr {d : Nat} {a v w : Nat → Int} (h : ∀ k, k < d → v k = w k) : z_dot d a v = z_dot d a w := z_sum_congr (fun k hk => by rw [h k hk])
theorem z_dot_mul (d : Nat) (a v : Nat → Int) (x : Int) : z_dot d a (fun k => x * v k) = x * z_dot d a v := by
  unfold z_dot
  rw [← z_sum_mul]
  exact z_sum_congr (fun k _ => by rw [Int.mul_assoc])
theorem z_sum_one {n i : Nat} {f : Nat → Int} (hi : i < n) (h : ∀ k, k < n → k ≠ i → f k = 0) : z_sum n f = f i := by
  induction n with
  | zero => omega
  | succ n ih =>
    unfold z_sum
    by_cases e : i = n
    · subst e
      rw [z_sum_congr (g := fun _ => 0) (fun k hk => h k (by omega) (by omega)), z_sum_0]
      omega
    · rw [ih (by omega) (fun k hk => h k (by omega)), h n (by omega) (fun z => e z.symm)]
      omega
/-- the first d rows are the cells -/
def z_unit (d n : Nat) (A : Nat → Nat → Int) : Prop := d ≤ n ∧ ∀ i, i < d → ∀ k, k < d → A i k = if i = k then 1 else 0
theorem z_dot_unit {d n : Nat} {A : Nat → Nat → Int} (u : z_unit d n A) {i : Nat} (hi : i < d) (v : Nat → Int) : z_dot d (A i) v = v i := by
  unfold z_dot
  rw [z_sum_one hi (fun k hk hki => by rw [u.2 i hi k hk, if_neg (fun z => hki z.symm), Int.mul_zero]), u.2 i hi i hi, if_pos rfl, Int.mul_one]

