/-! ===== the sum of an extreme dice's weights has room for products ===== -/
theorem z_col {x y d0 d1 e0 e1 : Int} (hx : 0 < x) (hy : 0 < y) (h0 : -18 ≤ d0 ∧ d0 ≤ 18) (h1 : -18 ≤ d1 ∧ d1 ≤ 18) (k0 : -18 ≤ e0 ∧ e0 ≤ 18) (k1 : -18 ≤ e1 ∧ e1 ≤ 18) : ∃ β α : Int, (0 ≤ β ∧ β ≤ 18) ∧ (0 ≤ α ∧ α ≤ 18) ∧ (β ≠ 0 ∨ α ≠ 0) ∧ (x * d0 + y * d1 = 0 → β * d0 + α * d1 = 0) ∧ (x * e0 + y * e1 = 0 → β * e0 + α * e1 = 0) := by
  -- a row that vanishes and is not 0 gives the two
  have key : ∀ {d0 d1 e0 e1 : Int}, (-18 ≤ d0 ∧ d0 ≤ 18) → (-18 ≤ d1 ∧ d1 ≤ 18) → x * d0 + y * d1 = 0 → (d0 ≠ 0 ∨ d1 ≠ 0) → ∃ β α : Int, (0 ≤ β ∧ β ≤ 18) ∧ (0 ≤ α ∧ α ≤ 18) ∧ (β ≠ 0 ∨ α ≠ 0) ∧ β * d0 + α * d1 = 0 ∧ (x * e0 + y * e1 = 0 → β * e0 + α * e1 = 0) := fun {d0 d1 e0 e1} h0 h1 e hn => by
    have fin : ∀ β α : Int, x * α = y * β → (x * e0 + y * e1 = 0 → β * e0 + α * e1 = 0) := fun β α hxy h => by
      have h2 : x * (β * e0 + α * e1) = β * (x * e0 + y * e1) := by
        rw [Int.mul_add, Int.mul_add, ← Int.mul_assoc x α e1, hxy, Int.mul_left_comm x β e0, Int.mul_comm y β, Int.mul_assoc β y e1]
      rw [h, Int.mul_zero] at h2
      rcases Int.mul_eq_zero.1 h2 with z | z
      · omega
      · exact z
    rcases Int.lt_trichotomy d0 0 with c | c | c
    · have hp : 0 < d1 := by
        rcases (show 0 < d1 ∨ d1 ≤ 0 by omega) with z | z
        · exact z
        · have z1 : x * d0 < 0 := Int.mul_neg_of_pos_of_neg hx c
          have z2 : y * d1 ≤ 0 := Int.mul_nonpos_of_nonneg_of_nonpos (by omega) z
          omega
      refine ⟨d1, -d0, by omega, by omega, by omega, ?_, fin d1 (-d0) ?_⟩
      · rw [Int.neg_mul, Int.mul_comm d1 d0]; omega
      · rw [Int.mul_neg]; omega
    · rw [c, Int.mul_zero, Int.zero_add] at e
      rcases Int.mul_eq_zero.1 e with z | z
      · omega
      · omega
    · have hp : d1 < 0 := by
        rcases (show d1 < 0 ∨ 0 ≤ d1 by omega) with z | z
        · exact z
        · have z1 : 0 < x * d0 := Int.mul_pos hx c
          have z2 : 0 ≤ y * d1 := Int.mul_nonneg (by omega) z
          omega
      refine ⟨-d1, d0, by omega, by omega, by omega, ?_, fin (-d1) d0 ?_⟩
      · rw [Int.neg_mul, Int.mul_comm d1 d0]; omega
      · rw [Int.mul_neg]; omega
  by_cases c1 : x * d0 + y * d1 = 0 ∧ (d0 ≠ 0 ∨ d1 ≠ 0)
  · obtain ⟨β, α, b1, b2, b3, b4, b5⟩ := key (e0 := e0) (e1 := e1) h0 h1 c1.1 c1.2
    exact ⟨β, α, b1, b2, b3, fun _ => b4, b5⟩
  · by_cases c2 : x * e0 + y * e1 = 0 ∧ (e0 ≠ 0 ∨ e1 ≠ 0)
    · obtain ⟨β, α, b1, b2, b3, b4, b5⟩ := key (e0 := d0) (e1 := d1) k0 k1 c2.1 c2.2
      exact ⟨β, α, b1, b2, b3, b5, fun _ => b4⟩
    · refine ⟨1, 1, by omega, by omega, by omega, fun z => ?_, fun z => ?_⟩
      · have : d0 = 0 ∧ d1 = 0 := by
          rcases Classical.em (d0 = 0) with q | q
          · rcases Classical.em (d1 = 0) with q2 | q2
            · exact ⟨q, q2⟩
            · exact absurd ⟨z, Or.inr q2⟩ c1
          · exact absurd ⟨z, Or.inl q⟩ c1
        omega
      · have : e0 = 0 ∧ e1 = 0 := by
          rcases Classical.em (e0 = 0) with q | q
          · rcases Classical.em (e1 = 0) with q2 | q2
            · exact ⟨q, q2⟩
            · exact absurd ⟨z, Or.inr q2⟩ c2
          · exact absurd ⟨z, Or.inl q⟩ c2
        omega
section small
variable {g : Nat → Nat → Int32}
theorem z_row3 (hg : z_rng g) {q k : Nat} (hq : q < 8) (hk : k < 6) : (-18 ≤ z_row 3 g (6 + q) k ∧ z_row 3 g (6 + q) k ≤ 18) ∧ (q_mv 3 k (q_pl q) ≠ q_td 3 q → z_row 3 g (6 + q) k = 0) := by
  have e : z_row 3 g (6 + q) k = (q_ls 3 g q k).toInt := by
    unfold z_row
    rw [if_neg (by omega), show 6 + q - 2 * 3 = q by omega]
  have h := q_ls_toInt (c := 3) (Or.inr rfl) hg (show q < q_nq 3 from hq) hk
  rw [e]
  by_cases c : q_mv 3 k (q_pl q) = q_td 3 q
  · rw [if_pos c] at h
    exact ⟨by omega, fun z => absurd c z⟩
  · rw [if_neg c] at h
    exact ⟨by omega, fun _ => by omega⟩
theorem z_dot6 (a v : Nat → Int) : z_dot 6 a v = v 0 * a 0 + v 1 * a 1 + v 2 * a 2 + v 3 * a 3 + v 4 * a 4 + v 5 * a 5 := by
  show (0 : Int) + v 0 * a 0 + v 1 * a 1 + v 2 * a 2 + v 3 * a 3 + v 4 * a 4 + v 5 * a 5 = _
  omega
/-- all told: the numbers are small -/
theorem z_all_told (hg : z_rng g) {v : Nat → Int} (hv : z_ext 6 (6 + 8) (z_row 3 g) v) (hp : ∀ k, k < 6 → 0 < v k) : ∀ k, k < 6 → (v k).natAbs ≤ 17006112 := by
  have R : ∀ q k, q < 8 → k < 6 → -18 ≤ z_row 3 g (6 + q) k ∧ z_row 3 g (6 + q) k ≤ 18 := fun q k hq hk => (z_row3 hg hq hk).1
  have Z : ∀ q k, q < 8 → k < 6 → q_mv 3 k (q_pl q) ≠ q_td 3 q → z_row 3 g (6 + q) k = 0 := fun q k hq hk => (z_row3 hg hq hk).2
  have col : ∀ j, j < 3 → ∃ β α : Int, (0 ≤ β ∧ β ≤ 18) ∧ (0 ≤ α ∧ α ≤ 18) ∧ (β ≠ 0 ∨ α ≠ 0) ∧ (v j * z_row 3 g (6 + (2 + 2 * j)) j + v (3 + j) * z_row 3 g (6 + (2 + 2 * j)) (3 + j) = 0 → β * z_row 3 g (6 + (2 + 2 * j)) j + α * z_row 3 g (6 + (2 + 2 * j)) (3 + j) = 0) ∧ (v j * z_row 3 g (6 + (3 + 2 * j)) j + v (3 + j) * z_row 3 g (6 + (3 + 2 * j)) (3 + j) = 0 → β * z_row 3 g (6 + (3 + 2 * j)) j + α * z_row 3 g (6 + (3 + 2 * j)) (3 + j) = 0) := fun j hj =>
    z_col (hp j (by omega)) (hp (3 + j) (by omega)) (R _ _ (by omega) (by omega)) (R _ _ (by omega) (by omega)) (R _ _ (by omega) (by omega)) (R _ _ (by omega) (by omega))
  obtain ⟨β0, α0, p1, p2, p3, p4, p5⟩ := col 0 (by omega)
  obtain ⟨β1, α1, r1, r2, r3, r4, r5⟩ := col 1 (by omega)
  obtain ⟨β2, α2, s1, s2, s3, s4, s5⟩ := col 2 (by omega)
  let β : Nat → Int := fun k => if k = 0 then β0 else if k = 1 then β1 else β2
  let α : Nat → Int := fun k => if k = 0 then α0 else if k = 1 then α1 else α2
  have hβ : ∀ k, 0 ≤ β k ∧ β k ≤ 18 := fun k => by
    show 0 ≤ (if k = 0 then β0 else if k = 1 then β1 else β2) ∧ (if k = 0 then β0 else if k = 1 then β1 else β2) ≤ 18
    split
    · exact p1
    · split
      · exact r1
      · exact s1
  have hα : ∀ k, 0 ≤ α k ∧ α k ≤ 18 := fun k => by
    show 0 ≤ (if k = 0 then α0 else if k = 1 then α1 else α2) ∧ (if k = 0 then α0 else if k = 1 then α1 else α2) ≤ 18
    split
    · exact p2
    · split
      · exact r2
      · exact s2
  let M : Nat → Nat → Int := fun r k => if r = 0 then β k * z_row 3 g 6 k else α k * z_row 3 g 7 (3 + k)
  have hM : ∀ r k, k < 3 → (M r k).natAbs ≤ 324 := fun r k hk => by
    show (if r = 0 then β k * z_row 3 g 6 k else α k * z_row 3 g 7 (3 + k)).natAbs ≤ 324
    have a1 := R 0 k (by omega) (by omega)
    have a2 := R 1 (3 + k) (by omega) (by omega)
    have z1 := z_mulb (hβ k).1 (hβ k).2 a1.1 a1.2
    have z2 := z_mulb (hα k).1 (hα k).2 a2.1 a2.2
    rw [show 6 + 0 = 6 from rfl] at z1
    rw [show 6 + 1 = 7 from rfl] at z2
    split <;> omega
  obtain ⟨x, ⟨k0, hk0, hx0⟩, x2, x3⟩ := z_siegel (d := 3) (m := 2) (X := 944784) (R := M) rfl (L := fun _ => 972) (fun r _ => by
    have m0 := hM r 0 (by omega)
    have m1 := hM r 1 (by omega)
    have m2 := hM r 2 (by omega)
    show 0 + (M r 0).natAbs + (M r 1).natAbs + (M r 2).natAbs ≤ 972 ∧ _
    omega) (by decide)
  let w : Nat → Int := fun k => if k < 3 then β k * x k else α (k - 3) * x (k - 3)
  have y0 : x 0 * (β0 * z_row 3 g 6 0) + x 1 * (β1 * z_row 3 g 6 1) + x 2 * (β2 * z_row 3 g 6 2) = 0 := by
    have h : (0 : Int) + x 0 * (β0 * z_row 3 g 6 0) + x 1 * (β1 * z_row 3 g 6 1) + x 2 * (β2 * z_row 3 g 6 2) = 0 := x3 0 (by omega)
    omega
  have y1 : x 0 * (α0 * z_row 3 g 7 3) + x 1 * (α1 * z_row 3 g 7 4) + x 2 * (α2 * z_row 3 g 7 5) = 0 := by
    have h : (0 : Int) + x 0 * (α0 * z_row 3 g 7 3) + x 1 * (α1 * z_row 3 g 7 4) + x 2 * (α2 * z_row 3 g 7 5) = 0 := x3 1 (by omega)
    omega
  have ws : ∀ b r y : Int, b * y * r = y * (b * r) := fun b r y => by rw [Int.mul_right_comm, Int.mul_comm]
  have dw : ∀ a : Nat → Int, z_dot 6 a w = x 0 * (β0 * a 0) + x 1 * (β1 * a 1) + x 2 * (β2 * a 2) + x 0 * (α0 * a 3) + x 1 * (α1 * a 4) + x 2 * (α2 * a 5) := fun a => by
    rw [z_dot6]
    show β0 * x 0 * a 0 + β1 * x 1 * a 1 + β2 * x 2 * a 2 + α0 * x 0 * a 3 + α1 * x 1 * a 4 + α2 * x 2 * a 5 = _
    rw [ws, ws, ws, ws, ws, ws]
  have hker : ∀ i, i < 6 + 8 → z_dot 6 (z_row 3 g i) v = 0 → z_dot 6 (z_row 3 g i) w = 0 := fun i hi e => by
    by_cases h6 : i < 6
    · rw [z_dot_unit (z_row_unit (c := 3) (t := 8) (g := g)) h6] at e
      have := hp i h6
      omega
    · have cas : i = 6 ∨ i = 7 ∨ i = 8 ∨ i = 9 ∨ i = 10 ∨ i = 11 ∨ i = 12 ∨ i = 13 := by omega
      rw [dw]
      rw [z_dot6] at e
      rcases cas with rfl | rfl | rfl | rfl | rfl | rfl | rfl | rfl
      · rw [show z_row 3 g 6 3 = 0 from Z 0 3 (by omega) (by omega) (by decide), show z_row 3 g 6 4 = 0 from Z 0 4 (by omega) (by omega) (by decide), show z_row 3 g 6 5 = 0 from Z 0 5 (by omega) (by omega) (by decide)]
        simp only [Int.mul_zero, Int.add_zero]
        exact y0
      · rw [show z_row 3 g 7 0 = 0 from Z 1 0 (by omega) (by omega) (by decide), show z_row 3 g 7 1 = 0 from Z 1 1 (by omega) (by omega) (by decide), show z_row 3 g 7 2 = 0 from Z 1 2 (by omega) (by omega) (by decide)]
        simp only [Int.mul_zero, Int.zero_add]
        exact y1
      · rw [show z_row 3 g 8 1 = 0 from Z 2 1 (by omega) (by omega) (by decide), show z_row 3 g 8 2 = 0 from Z 2 2 (by omega) (by omega) (by decide), show z_row 3 g 8 4 = 0 from Z 2 4 (by omega) (by omega) (by decide), show z_row 3 g 8 5 = 0 from Z 2 5 (by omega) (by omega) (by decide)] at e ⊢
        simp only [Int.mul_zero, Int.add_zero] at e ⊢
        rw [← Int.mul_add, p4 e, Int.mul_zero]
      · rw [show z_row 3 g 9 1 = 0 from Z 3 1 (by omega) (by omega) (by decide), show z_row 3 g 9 2 = 0 from Z 3 2 (by omega) (by omega) (by decide), show z_row 3 g 9 4 = 0 from Z 3 4 (by omega) (by omega) (by decide), show z_row 3 g 9 5 = 0 from Z 3 5 (by omega) (by omega) (by decide)] at e ⊢
        simp only [Int.mul_zero, Int.add_zero] at e ⊢
        rw [← Int.mul_add, p5 e, Int.mul_zero]
      · rw [show z_row 3 g 10 0 = 0 from Z 4 0 (by omega) (by omega) (by decide), show z_row 3 g 10 2 = 0 from Z 4 2 (by omega) (by omega) (by decide), show z_row 3 g 10 3 = 0 from Z 4 3 (by omega) (by omega) (by decide), show z_row 3 g 10 5 = 0 from Z 4 5 (by omega) (by omega) (by decide)] at e ⊢
        simp only [Int.mul_zero, Int.add_zero, Int.zero_add] at e ⊢
        rw [← Int.mul_add, r4 e, Int.mul_zero]
      · rw [show z_row 3 g 11 0 = 0 from Z 5 0 (by omega) (by omega) (by decide), show z_row 3 g 11 2 = 0 from Z 5 2 (by omega) (by omega) (by decide), show z_row 3 g 11 3 = 0 from Z 5 3 (by omega) (by omega) (by decide), show z_row 3 g 11 5 = 0 from Z 5 5 (by omega) (by omega) (by decide)] at e ⊢
        simp only [Int.mul_zero, Int.add_zero, Int.zero_add] at e ⊢
        rw [← Int.mul_add, r5 e, Int.mul_zero]
      · rw [show z_row 3 g 12 0 = 0 from Z 6 0 (by omega) (by omega) (by decide), show z_row 3 g 12 1 = 0 from Z 6 1 (by omega) (by omega) (by decide), show z_row 3 g 12 3 = 0 from Z 6 3 (by omega) (by omega) (by decide), show z_row 3 g 12 4 = 0 from Z 6 4 (by omega) (by omega) (by decide)] at e ⊢
        simp only [Int.mul_zero, Int.add_zero, Int.zero_add] at e ⊢
        rw [← Int.mul_add, s4 e, Int.mul_zero]
      · rw [show z_row 3 g 13 0 = 0 from Z 7 0 (by omega) (by omega) (by decide), show z_row 3 g 13 1 = 0 from Z 7 1 (by omega) (by omega) (by decide), show z_row 3 g 13 3 = 0 from Z 7 3 (by omega) (by omega) (by decide), show z_row 3 g 13 4 = 0 from Z 7 4 (by omega) (by omega) (by decide)] at e ⊢
        simp only [Int.mul_zero, Int.add_zero, Int.zero_add] at e ⊢
        rw [← Int.mul_add, s5 e, Int.mul_zero]
  obtain ⟨a, b, ha, e⟩ := hv.2.2 w hker
  have hw0 : ∃ k, k < 6 ∧ w k ≠ 0 := by
    have nz : ∀ k, k < 3 → β k ≠ 0 ∨ α k ≠ 0 := fun k hk => by
      rcases (show k = 0 ∨ k = 1 ∨ k = 2 by omega) with rfl | rfl | rfl
      · exact p3
      · exact r3
      · exact s3
    rcases nz k0 hk0 with z | z
    · refine ⟨k0, by omega, ?_⟩
      show (if k0 < 3 then β k0 * x k0 else α (k0 - 3) * x (k0 - 3)) ≠ 0
      rw [if_pos hk0]
      exact Int.mul_ne_zero z hx0
    · refine ⟨3 + k0, by omega, ?_⟩
      show (if 3 + k0 < 3 then β (3 + k0) * x (3 + k0) else α (3 + k0 - 3) * x (3 + k0 - 3)) ≠ 0
      rw [if_neg (by omega), show 3 + k0 - 3 = k0 by omega]
      exact Int.mul_ne_zero z hx0
  refine z_shortest (x := w) hv.2.1 hw0 ha e (fun k hk => ?_)
  have hb : ∀ b y : Int, (0 ≤ b ∧ b ≤ 18) → y.natAbs ≤ 944784 → (b * y).natAbs ≤ 17006112 := fun b y hb hy => by
    have z := z_mulb (a := b) (b := y) (p := 18) (q := 944784) hb.1 hb.2 (by omega) (by omega)
    omega
  show (if k < 3 then β k * x k else α (k - 3) * x (k - 3)).natAbs ≤ 17006112
  split
  · exact hb _ _ (hβ k) (x2 k (by omega))
  · exact hb _ _ (hα _) (x2 (k - 3) (by omega))
theorem z_sum_small {c : Nat} {g : Nat → Nat → Int32} (h3 : c = 2 ∨ c = 3) (hg : z_rng g) {v : Nat → Int} (hv : z_ext (2 * c) (2 * c + q_nq c) (z_row c g) v) : z_sum (2 * c) v ≤ 680244480 := by
  have k := z_small h3 hg (Nat.le_refl _) hv
  rcases h3 with rfl | rfl
  · have k0 := k 0 (by omega)
    have k1 := k 1 (by omega)
    have k2 := k 2 (by omega)
    have k3 := k 3 (by omega)
    show (0 : Int) + v 0 + v 1 + v 2 + v 3 ≤ _
    omega
  · have k0 := k 0 (by omega)
    have k1 := k 1 (by omega)
    have k2 := k 2 (by omega)
    have k3 := k 3 (by omega)
    have k4 := k 4 (by omega)
    have k5 := k 5 (by omega)
    show (0 : Int) + v 0 + v 1 + v 2 + v 3 + v 4 + v 5 ≤ _
    by_cases h : ∀ k, k < 6 → 0 < v k
    · have b := z_all_told hg hv h
      have b0 := b 0 (by omega)
      have b1 := b 1 (by omega)
      have b2 := b 2 (by omega)
      have b3 := b 3 (by omega)
      have b4 := b 4 (by omega)
      have b5 := b 5 (by omega)
      omega
    · have : v 0 = 0 ∨ v 1 = 0 ∨ v 2 = 0 ∨ v 3 = 0 ∨ v 4 = 0 ∨ v 5 = 0 := Classical.byContradiction (fun z => h (fun k hk => by
        rcases (show k = 0 ∨ k = 1 ∨ k = 2 ∨ k = 3 ∨ k = 4 ∨ k = 5 by omega) with rfl | rfl | rfl | rfl | rfl | rfl <;> omega))
      omega
end small
