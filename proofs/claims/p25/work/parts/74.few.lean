/-! ===== a game has at most 128 extreme dice, also when not all inequalities count ===== -/
theorem z_php : ∀ (M N : Nat) (f : Nat → Nat), (∀ i, i < N → f i < M) → (∀ i j, i < j → j < N → f i ≠ f j) → N ≤ M := by
  intro M
  induction M with
  | zero =>
    intro N f h _
    rcases Nat.eq_zero_or_pos N with e | e
    · omega
    · exact absurd (h 0 e) (by omega)
  | succ M ih =>
    intro N f h hd
    by_cases hM : ∃ i, i < N ∧ f i = M
    · obtain ⟨i0, hi0, e0⟩ := hM
      have := ih (N - 1) (fun i => f (if i < i0 then i else i + 1)) (fun i hi => by
        by_cases h1 : i < i0
        · rw [if_pos h1]
          have h2 := h i (by omega)
          have h3 := hd i i0 h1 hi0
          omega
        · rw [if_neg h1]
          have h2 := h (i + 1) (by omega)
          have h3 := hd i0 (i + 1) (by omega) (by omega)
          omega) (fun i j hij hj => by
        by_cases h1 : i < i0
        · rw [if_pos h1]
          by_cases h2 : j < i0
          · rw [if_pos h2]; exact hd i j hij (by omega)
          · rw [if_neg h2]; exact hd i (j + 1) (by omega) (by omega)
        · rw [if_neg h1, if_neg (by omega)]
          exact hd (i + 1) (j + 1) (by omega) (by omega))
      omega
    · have := ih N f (fun i hi => by
        have h1 := h i hi
        have h2 : f i ≠ M := fun z => hM ⟨i, hi, z⟩
        omega) hd
      omega
/-- two numbers, none below 0 -/
theorem z_par {x y x' y' p q p' q' : Int} (hx : 0 ≤ x) (hy : 0 ≤ y) (hx' : 0 ≤ x') (hy' : 0 ≤ y') (hp : p ≤ 0) (hq : 0 ≤ q) (hp' : p' ≤ 0) (hq' : 0 ≤ q') (n1 : p ≠ 0 ∨ q ≠ 0) (n2 : p' ≠ 0 ∨ q' ≠ 0) (e1 : x * p + y * q = 0) (e2 : x' * p' + y' * q' = 0) (g1 : 0 ≤ x' * p + y' * q) (g2 : 0 ≤ x * p' + y * q') : x * y' = y * x' := by
  have key : ∀ {x y x' y' p q : Int}, 0 ≤ x → 0 ≤ y → p ≤ 0 → 0 ≤ q → (p ≠ 0 ∨ q ≠ 0) → x * p + y * q = 0 → 0 ≤ x' * p + y' * q → y * x' ≤ x * y' := by
    intro x y x' y' p q hx hy hp hq n1 e1 g1
    have a1 : 0 ≤ x * (x' * p + y' * q) := Int.mul_nonneg hx g1
    have a2 : 0 ≤ y * (x' * p + y' * q) := Int.mul_nonneg hy g1
    have b1 : x * (x' * p + y' * q) = q * (x * y' - y * x') := by
      have : x * (x' * p) = x' * (x * p) := by ac_rfl
      rw [Int.mul_add, this, show x * p = -(y * q) by omega, Int.mul_sub, Int.mul_neg]
      have h1 : x * (y' * q) = q * (x * y') := by ac_rfl
      have h2 : x' * (y * q) = q * (y * x') := by ac_rfl
      omega
    have b2 : y * (x' * p + y' * q) = -p * (x * y' - y * x') := by
      have : y * (y' * q) = y' * (y * q) := by ac_rfl
      rw [Int.mul_add, this, show y * q = -(x * p) by omega, Int.mul_sub, Int.mul_neg, Int.neg_mul, Int.neg_mul]
      have h1 : y * (x' * p) = p * (y * x') := by ac_rfl
      have h2 : y' * (x * p) = p * (x * y') := by ac_rfl
      omega
    rw [b1] at a1
    rw [b2] at a2
    rcases n1 with h | h
    · have : 0 ≤ x * y' - y * x' := Int.le_of_mul_le_mul_left (by rw [Int.mul_zero]; exact a2) (by omega : 0 < -p)
      omega
    · have : 0 ≤ x * y' - y * x' := Int.le_of_mul_le_mul_left (by rw [Int.mul_zero]; exact a1) (by omega : 0 < q)
      omega
  have k1 := key hx hy hp hq n1 e1 g1
  have k2 := key hx' hy' hp' hq' n2 e2 g2
  have e3 : y' * x = x * y' := Int.mul_comm _ _
  have e4 : x' * y = y * x' := Int.mul_comm _ _
  omega
theorem z_par0 {x y x' y' p q : Int} (hn : x ≠ 0 ∨ y ≠ 0) (e : x * y' = y * x') (h : x * p + y * q = 0) : x' * p + y' * q = 0 := by
  have a1 : x * (x' * p + y' * q) = x' * (x * p + y * q) := by
    rw [Int.mul_add, Int.mul_add]
    have h1 : x * (y' * q) = x * y' * q := by ac_rfl
    have h2 : x' * (y * q) = y * x' * q := by ac_rfl
    have h3 : x * (x' * p) = x' * (x * p) := by ac_rfl
    rw [h1, h2, h3, e]
  have a2 : y * (x' * p + y' * q) = y' * (x * p + y * q) := by
    rw [Int.mul_add, Int.mul_add]
    have h1 : y * (x' * p) = y * x' * p := by ac_rfl
    have h2 : y' * (x * p) = x * y' * p := by ac_rfl
    have h3 : y * (y' * q) = y' * (y * q) := by ac_rfl
    rw [h1, h2, h3, e]
  rw [h, Int.mul_zero] at a1 a2
  rcases hn with z | z
  · exact (Int.mul_eq_zero.1 a1).resolve_left z
  · exact (Int.mul_eq_zero.1 a2).resolve_left z
theorem z_par3 {x y p q : Int} (hx : 0 ≤ x) (hy : 0 ≤ y) (hn : x ≠ 0 ∨ y ≠ 0) (h : x * p + y * q = 0) : (p ≤ 0 ∧ 0 ≤ q) ∨ (0 ≤ p ∧ q ≤ 0) := by
  by_cases h1 : p ≤ 0
  · by_cases h2 : 0 ≤ q
    · exact Or.inl ⟨h1, h2⟩
    · by_cases h3 : p = 0
      · exact Or.inr ⟨by omega, by omega⟩
      · exfalso
        have a1 : 0 ≤ x * -p := Int.mul_nonneg hx (by omega)
        have a2 : 0 ≤ y * -q := Int.mul_nonneg hy (by omega)
        rw [Int.mul_neg] at a1 a2
        rcases hn with z | z
        · exact (Int.mul_ne_zero z h3) (by omega)
        · exact (Int.mul_ne_zero z (show q ≠ 0 by omega)) (by omega)
  · by_cases h2 : q ≤ 0
    · exact Or.inr ⟨by omega, h2⟩
    · exfalso
      have a1 : 0 ≤ x * p := Int.mul_nonneg hx (by omega)
      have a2 : 0 ≤ y * q := Int.mul_nonneg hy (by omega)
      rcases hn with z | z
      · exact (Int.mul_ne_zero z (show p ≠ 0 by omega)) (by omega)
      · exact (Int.mul_ne_zero z (show q ≠ 0 by omega)) (by omega)
section few
variable {c n : Nat} {A : Nat → Nat → Int}
/-- row i sees column j alone -/
def z_in (c : Nat) (A : Nat → Nat → Int) (i j : Nat) : Prop := ∀ k, k < 2 * c → k ≠ j → k ≠ c + j → A i k = 0
theorem z_dot_in {i j : Nat} (hj : j < c) (h : z_in c A i j) (v : Nat → Int) : z_dot (2 * c) (A i) v = v j * A i j + v (c + j) * A i (c + j) := by
  have key : ∀ m, m ≤ 2 * c → z_sum m (fun k => v k * A i k) = (if j < m then v j * A i j else 0) + (if c + j < m then v (c + j) * A i (c + j) else 0) := by
    intro m
    induction m with
    | zero => intro _; rfl
    | succ m ih =>
      intro hm
      unfold z_sum
      rw [ih (by omega)]
      by_cases e1 : m = j
      · subst e1
        rw [if_neg (by omega), if_neg (by omega), if_pos (by omega), if_neg (by omega)]
        omega
      · by_cases e2 : m = c + j
        · subst e2
          rw [if_pos (by omega), if_neg (by omega), if_pos (by omega), if_pos (by omega)]
          omega
        · rw [h m (by omega) e1 e2, Int.mul_zero, Int.add_zero]
          congr 1
          · by_cases h3 : j < m
            · rw [if_pos h3, if_pos (by omega)]
            · rw [if_neg h3, if_neg (by omega)]
          · by_cases h3 : c + j < m
            · rw [if_pos h3, if_pos (by omega)]
            · rw [if_neg h3, if_neg (by omega)]
  unfold z_dot
  rw [key (2 * c) (Nat.le_refl _), if_pos (by omega), if_pos (by omega)]
def z_low (c n : Nat) (A : Nat → Nat → Int) (v : Nat → Int) (j : Nat) : Prop := ∃ i, i < n ∧ z_in c A i j ∧ z_dot (2 * c) (A i) v = 0 ∧ A i j ≤ 0 ∧ 0 ≤ A i (c + j) ∧ (A i j ≠ 0 ∨ A i (c + j) ≠ 0)
def z_up (c n : Nat) (A : Nat → Nat → Int) (v : Nat → Int) (j : Nat) : Prop := ∃ i, i < n ∧ z_in c A i j ∧ z_dot (2 * c) (A i) v = 0 ∧ 0 ≤ A i j ∧ A i (c + j) ≤ 0 ∧ (A i j ≠ 0 ∨ A i (c + j) ≠ 0)
noncomputable def z_if (P : Prop) (a b : Nat) : Nat := @ite Nat P (Classical.propDecidable P) a b
theorem z_if_pos {P : Prop} {a b : Nat} (h : P) : z_if P a b = a := @if_pos P (Classical.propDecidable P) h Nat a b
theorem z_if_neg {P : Prop} {a b : Nat} (h : ¬ P) : z_if P a b = b := @if_neg P (Classical.propDecidable P) h Nat a b
theorem z_if_or (P : Prop) (a b : Nat) : z_if P a b = a ∧ P ∨ z_if P a b = b ∧ ¬ P := by
  by_cases h : P
  · exact Or.inl ⟨z_if_pos h, h⟩
  · exact Or.inr ⟨z_if_neg h, h⟩
noncomputable def z_st (c n : Nat) (A : Nat → Nat → Int) (v : Nat → Int) (j : Nat) : Nat := z_if (v j = 0 ∧ v (c + j) = 0) 0 (z_if (z_low c n A v j) 1 (z_if (z_up c n A v j) 2 3))
theorem z_st_lt {v : Nat → Int} {j : Nat} : z_st c n A v j < 4 := by
  unfold z_st
  rcases z_if_or (v j = 0 ∧ v (c + j) = 0) 0 (z_if (z_low c n A v j) 1 (z_if (z_up c n A v j) 2 3)) with e | e
  · omega
  · rcases z_if_or (z_low c n A v j) 1 (z_if (z_up c n A v j) 2 3) with e | e
    · omega
    · rcases z_if_or (z_up c n A v j) 2 3 with e | e <;> omega
theorem z_st_tight (u : z_unit (2 * c) n A) {v w : Nat → Int} (fv : z_feas (2 * c) n A v) (fw : z_feas (2 * c) n A w) {j : Nat} (hj : j < c) (e : z_st c n A v j = z_st c n A w j) {i : Nat} (hi : i < n) (hij : z_in c A i j) (h : z_dot (2 * c) (A i) v = 0) : z_dot (2 * c) (A i) w = 0 := by
  have v1 := fv.nn u j (by omega)
  have v2 := fv.nn u (c + j) (by omega)
  have w1 := fw.nn u j (by omega)
  have w2 := fw.nn u (c + j) (by omega)
  have dv : ∀ i, z_in c A i j → z_dot (2 * c) (A i) v = v j * A i j + v (c + j) * A i (c + j) := fun i h => z_dot_in hj h v
  have dw : ∀ i, z_in c A i j → z_dot (2 * c) (A i) w = w j * A i j + w (c + j) * A i (c + j) := fun i h => z_dot_in hj h w
  have hi' := h
  rw [dv i hij] at h
  rw [dw i hij]
  unfold z_st at e
  by_cases zv : v j = 0 ∧ v (c + j) = 0
  · rw [z_if_pos zv] at e
    by_cases zw : w j = 0 ∧ w (c + j) = 0
    · rw [zw.1, zw.2]; simp
    · rw [z_if_neg zw] at e
      exfalso
      rcases z_if_or (z_low c n A w j) 1 (z_if (z_up c n A w j) 2 3) with z | z
      · omega
      · rcases z_if_or (z_up c n A w j) 2 3 with z | z <;> omega
  · have nv : v j ≠ 0 ∨ v (c + j) ≠ 0 := by omega
    rw [z_if_neg zv] at e
    by_cases zw : w j = 0 ∧ w (c + j) = 0
    · rw [zw.1, zw.2]; simp
    · rw [z_if_neg zw] at e
      have nw : w j ≠ 0 ∨ w (c + j) ≠ 0 := by omega
      by_cases lv : z_low c n A v j
      · rw [z_if_pos lv] at e
        have lw : z_low c n A w j := Classical.byContradiction (fun z => by
          rw [z_if_neg z] at e
          rcases z_if_or (z_up c n A w j) 2 3 with z | z <;> omega)
        obtain ⟨r, hr, rj, r0, r1, r2, r3⟩ := lv
        obtain ⟨s, hs, sj, s0, s1, s2, s3⟩ := lw
        have g1 := fw r hr
        have g2 := fv s hs
        rw [dv r rj] at r0
        rw [dw s sj] at s0
        rw [dw r rj] at g1
        rw [dv s sj] at g2
        exact z_par0 nv (z_par v1 v2 w1 w2 r1 r2 s1 s2 r3 s3 r0 s0 g1 g2) h
      · rw [z_if_neg lv] at e
        by_cases uv : z_up c n A v j
        · rw [z_if_pos uv] at e
          have uw : z_up c n A w j := Classical.byContradiction (fun z => by
            rw [z_if_neg z] at e
            rcases z_if_or (z_low c n A w j) 1 3 with z | z <;> omega)
          obtain ⟨r, hr, rj, r0, r1, r2, r3⟩ := uv
          obtain ⟨s, hs, sj, s0, s1, s2, s3⟩ := uw
          have g1 := fw r hr
          have g2 := fv s hs
          rw [dv r rj] at r0
          rw [dw s sj] at s0
          rw [dw r rj] at g1
          rw [dv s sj] at g2
          exact z_par0 nv (z_par v2 v1 w2 w1 r2 r1 s2 s1 r3.symm s3.symm (by omega) (by omega) (by omega) (by omega)).symm h
        · have hpq : A i j = 0 ∧ A i (c + j) = 0 := Classical.byContradiction (fun z => by
            have z' : A i j ≠ 0 ∨ A i (c + j) ≠ 0 := by omega
            rcases z_par3 v1 v2 nv h with y | y
            · exact lv ⟨i, hi, hij, hi', y.1, y.2, z'⟩
            · exact uv ⟨i, hi, hij, hi', y.1, y.2, z'⟩)
          rw [hpq.1, hpq.2]; simp
noncomputable def z_key (c n : Nat) (A : Nat → Nat → Int) (v : Nat → Int) : Nat := z_st c n A v 0 + 4 * z_st c n A v 1 + 16 * z_st c n A v 2 + 64 * z_if (z_dot (2 * c) (A (2 * c)) v = 0) 1 0
theorem z_key_same (u : z_unit (2 * c) n A) (hc : c ≤ 3) (hrow : ∀ i, i < n → i ≠ 2 * c → i ≠ 2 * c + 1 → ∃ j, j < c ∧ z_in c A i j) {v w : Nat → Int} (hv : z_ext (2 * c) n A v) (hw : z_ext (2 * c) n A w) (e : z_key c n A v = z_key c n A w) : ∀ k, k < 2 * c → v k = w k := by
  have b : ∀ (x : Nat → Int) j, z_st c n A x j < 4 := fun x j => z_st_lt
  have e0 : (∀ j, j < 3 → z_st c n A v j = z_st c n A w j) ∧ (z_dot (2 * c) (A (2 * c)) v = 0 ↔ z_dot (2 * c) (A (2 * c)) w = 0) := by
    unfold z_key at e
    have v0 := b v 0
    have v1 := b v 1
    have v2 := b v 2
    have w0 := b w 0
    have w1 := b w 1
    have w2 := b w 2
    have zv := z_if_or (z_dot (2 * c) (A (2 * c)) v = 0) 1 0
    have zw := z_if_or (z_dot (2 * c) (A (2 * c)) w = 0) 1 0
    refine ⟨fun j hj => ?_, ?_⟩
    · rcases (show j = 0 ∨ j = 1 ∨ j = 2 by omega) with rfl | rfl | rfl
      all_goals (rcases zv with zv | zv <;> rcases zw with zw | zw <;> omega)
    · rcases zv with zv | zv
      · rcases zw with zw | zw
        · exact ⟨fun _ => zw.2, fun _ => zv.2⟩
        · omega
      · rcases zw with zw | zw
        · omega
        · exact ⟨fun z => absurd z zv.2, fun z => absurd z zw.2⟩
  have tw : ∀ i, i < n → i ≠ 2 * c + 1 → (z_dot (2 * c) (A i) v = 0 ↔ z_dot (2 * c) (A i) w = 0) := fun i hi h1 => by
    by_cases h0 : i = 2 * c
    · rw [h0]; exact e0.2
    · obtain ⟨j, hj, hij⟩ := hrow i hi h0 h1
      exact ⟨z_st_tight u hv.1 hw.1 hj (e0.1 j (by omega)) hi hij, z_st_tight u hw.1 hv.1 hj (e0.1 j (by omega)).symm hi hij⟩
  by_cases h1 : z_dot (2 * c) (A (2 * c + 1)) w = 0
  · exact hv.same u hw (fun i hi h => by
      by_cases e1 : i = 2 * c + 1
      · rw [e1]; exact h1
      · exact (tw i hi e1).1 h)
  · intro k hk
    exact (hw.same u hv (fun i hi h => by
      by_cases e1 : i = 2 * c + 1
      · rw [e1] at h; exact absurd h h1
      · exact (tw i hi e1).2 h) k hk).symm
theorem z_few (u : z_unit (2 * c) n A) (hc : c ≤ 3) (hrow : ∀ i, i < n → i ≠ 2 * c → i ≠ 2 * c + 1 → ∃ j, j < c ∧ z_in c A i j) {N : Nat} {L : Nat → Nat → Int} (hL : ∀ i, i < N → z_ext (2 * c) n A (L i)) (hd : ∀ i j, i < j → j < N → ∃ k, k < 2 * c ∧ L i k ≠ L j k) : N ≤ 128 := by
  refine z_php 128 N (fun i => z_key c n A (L i)) (fun i hi => ?_) (fun i j hij hj e => ?_)
  · have b : ∀ (x : Nat → Int) j, z_st c n A x j < 4 := fun x j => z_st_lt
    have h0 := b (L i) 0
    have h1 := b (L i) 1
    have h2 := b (L i) 2
    unfold z_key
    rcases z_if_or (z_dot (2 * c) (A (2 * c)) (L i) = 0) 1 0 with z | z <;> omega
  · obtain ⟨k, hk, h⟩ := hd i j hij hj
    exact h (z_key_same u hc hrow (hL i (by omega)) (hL j hj) e k hk)
end few
/-- the rows of a game -/
theorem z_row_unit {c t : Nat} {g : Nat → Nat → Int32} : z_unit (2 * c) (2 * c + t) (z_row c g) := ⟨by omega, fun i hi k hk => by unfold z_row; rw [if_pos hi]⟩
theorem z_row_in {c t : Nat} {g : Nat → Nat → Int32} (h3 : c = 2 ∨ c = 3) (ht : t ≤ q_nq c) : ∀ i, i < 2 * c + t → i ≠ 2 * c → i ≠ 2 * c + 1 → ∃ j, j < c ∧ z_in c (z_row c g) i j := by
  intro i hi h1 h2
  by_cases hi2 : i < 2 * c
  · refine ⟨if i < c then i else i - c, by split <;> omega, fun k hk hk1 hk2 => ?_⟩
    unfold z_row
    rw [if_pos hi2, if_neg (fun z => by subst z; revert hk1 hk2; split <;> omega)]
  · have hq := q_nq_le h3
    have hd : ∀ c, c = 2 ∨ c = 3 → ∀ q, q < q_nq c → 2 ≤ q → q_td c q < c ∧ q_pl q = 1 := by
      rintro c (rfl | rfl) <;> decide
    have := hd c h3 (i - 2 * c) (by omega) (by omega)
    refine ⟨q_td c (i - 2 * c), this.1, fun k hk hk1 hk2 => ?_⟩
    unfold z_row
    rw [if_neg hi2]
    unfold q_ls
    rw [this.2]
    have hm : ¬ q_mv c k 1 = q_td c (i - 2 * c) := by
      unfold q_mv
      rw [if_neg (by omega)]
      split <;> omega
    rw [if_neg hm]
    rfl

