/-! ===== cones: one inequality more ===== -/
section dd
variable {d n : Nat} {A : Nat → Nat → Int}
/-- no third extreme vector vanishes where both do -/
def z_adj (d n : Nat) (A : Nat → Nat → Int) (x y : Nat → Int) : Prop := ∀ t, z_ext d n A t → (∀ i, i < n → z_dot d (A i) x = 0 → z_dot d (A i) y = 0 → z_dot d (A i) t = 0) → (∀ k, k < d → t k = x k) ∨ ∀ k, k < d → t k = y k
theorem z_unit.s {m : Nat} (u : z_unit d n A) (h : n ≤ m) : z_unit d m A := ⟨by have := u.1; omega, u.2⟩
theorem z_feas.s {v : Nat → Int} (f : z_feas d n A v) (h : 0 ≤ z_dot d (A n) v) : z_feas d (n + 1) A v := fun i hi => by
  by_cases e : i = n
  · rw [e]; exact h
  · exact f i (by omega)
theorem z_feas.p {v : Nat → Int} (f : z_feas d (n + 1) A v) : z_feas d n A v := fun i hi => f i (by omega)
theorem dd_keep {v : Nat → Int} (x : z_ext d n A v) (h : 0 ≤ z_dot d (A n) v) : z_ext d (n + 1) A v := ⟨x.1.s h, x.2.1, fun w hw => x.2.2 w (fun i hi z => hw i (by omega) z)⟩
/-- far along a vector of the cone, another may be added -/
theorem z_far {x z : Nat → Int} (f : z_feas d n A x) (h : ∀ i, i < n → z_dot d (A i) x = 0 → z_dot d (A i) z = 0) : ∃ M : Int, 0 < M ∧ z_feas d n A (fun k => M * x k + z k) ∧ z_feas d n A (fun k => M * x k + -1 * z k) := by
  have hM : ∃ M : Int, 0 < M ∧ ∀ i, i < n → z_dot d (A i) z ≤ M ∧ -M ≤ z_dot d (A i) z := by
    clear h f
    induction n with
    | zero => exact ⟨1, by omega, fun i hi => by omega⟩
    | succ n ih =>
      obtain ⟨M, h0, hm⟩ := ih
      refine ⟨M + (z_dot d (A n) z).natAbs, by omega, fun i hi => ?_⟩
      by_cases e : i = n
      · rw [e]; omega
      · have := hm i (by omega); omega
  obtain ⟨M, h0, hm⟩ := hM
  have key : ∀ i, i < n → 0 ≤ M * z_dot d (A i) x + z_dot d (A i) z ∧ 0 ≤ M * z_dot d (A i) x + -1 * z_dot d (A i) z := fun i hi => by
    have h1 := f i hi
    have h2 := hm i hi
    rcases (show z_dot d (A i) x = 0 ∨ 1 ≤ z_dot d (A i) x by omega) with e | e
    · rw [e, h i hi e]; simp
    · have h3 : M * 1 ≤ M * z_dot d (A i) x := Int.mul_le_mul_of_nonneg_left e (by omega)
      omega
  refine ⟨M, h0, fun i hi => ?_, fun i hi => ?_⟩
  · have := z_dot_lin d (A i) x z M 1
    simp only [Int.one_mul] at this
    rw [this]
    exact (key i hi).1
  · rw [z_dot_lin]
    exact (key i hi).2
theorem z_cnt {v : Nat → Int} : q_cnt n (fun i => z_dot d (A i) v ≠ 0) < n + 1 := by have := q_cnt_le n (fun i => z_dot d (A i) v ≠ 0); omega
/-- where two neighbours vanish, nothing but their sums do -/
theorem z_span (u : z_unit d n A) {x y : Nat → Int} (fx : z_feas d n A x) (fy : z_feas d n A y) (adj : z_adj d n A x y) {z : Nat → Int} (hz : ∀ i, i < n → z_dot d (A i) x = 0 → z_dot d (A i) y = 0 → z_dot d (A i) z = 0) : ∃ m a b : Int, m ≠ 0 ∧ ∀ k, k < d → m * z k = a * x k + b * y k := by
  have fs : z_feas d n A (fun k => x k + y k) := fun i hi => by rw [z_dot_add]; have := fx i hi; have := fy i hi; omega
  obtain ⟨M, hM, f, -⟩ := z_far (z := z) fs (fun i hi h => by
    rw [z_dot_add] at h
    have := fx i hi
    have := fy i hi
    exact hz i hi (by omega) (by omega))
  have := z_gen u (P := fun t => (∀ i, i < n → z_dot d (A i) x = 0 → z_dot d (A i) y = 0 → z_dot d (A i) t = 0) → ∃ m a b : Int, m ≠ 0 ∧ ∀ k, k < d → m * t k = a * x k + b * y k)
    (fun s t e h hv => by
      obtain ⟨m, a, b, hm, h2⟩ := h (fun i hi h1 h2 => by rw [z_dot_congr e]; exact hv i hi h1 h2)
      exact ⟨m, a, b, hm, fun k hk => by rw [← e k hk]; exact h2 k hk⟩)
    (fun _ => ⟨1, 0, 0, by omega, fun k hk => by simp⟩)
    (fun v hv h => by
      rcases adj v hv h with e | e
      · exact ⟨1, 1, 0, by omega, fun k hk => by rw [e k hk]; simp⟩
      · exact ⟨1, 0, 1, by omega, fun k hk => by rw [e k hk]; simp⟩)
    (fun s t f1 f2 h1 h2 hv => by
      have hv' : ∀ i, i < n → z_dot d (A i) x = 0 → z_dot d (A i) y = 0 → z_dot d (A i) s = 0 ∧ z_dot d (A i) t = 0 := fun i hi e1 e2 => by
        have := hv i hi e1 e2
        rw [z_dot_add] at this
        have := f1 i hi
        have := f2 i hi
        omega
      obtain ⟨m1, a1, b1, hm1, e1⟩ := h1 (fun i hi p q => (hv' i hi p q).1)
      obtain ⟨m2, a2, b2, hm2, e2⟩ := h2 (fun i hi p q => (hv' i hi p q).2)
      refine ⟨m1 * m2, m2 * a1 + m1 * a2, m2 * b1 + m1 * b2, Int.mul_ne_zero hm1 hm2, fun k hk => ?_⟩
      have p1 : m2 * (m1 * s k) = m2 * (a1 * x k + b1 * y k) := by rw [e1 k hk]
      have p2 : m1 * (m2 * t k) = m1 * (a2 * x k + b2 * y k) := by rw [e2 k hk]
      calc m1 * m2 * (s k + t k) = m2 * (m1 * s k) + m1 * (m2 * t k) := by rw [Int.mul_add]; congr 1 <;> ac_rfl
        _ = m2 * (a1 * x k + b1 * y k) + m1 * (a2 * x k + b2 * y k) := by rw [p1, p2]
        _ = (m2 * a1 + m1 * a2) * x k + (m2 * b1 + m1 * b2) * y k := by
          simp only [Int.mul_add, Int.add_mul, Int.mul_assoc]; omega)
    (fun m t hm f1 h1 hv => by
      obtain ⟨m1, a1, b1, hm1, e1⟩ := h1 (fun i hi p q => by
        have := hv i hi p q
        rw [z_dot_mul] at this
        exact (Int.mul_eq_zero.1 this).resolve_left (by omega))
      refine ⟨m1, m * a1, m * b1, hm1, fun k hk => ?_⟩
      calc m1 * (m * t k) = m * (m1 * t k) := by ac_rfl
        _ = m * (a1 * x k + b1 * y k) := by rw [e1 k hk]
        _ = m * a1 * x k + m * b1 * y k := by rw [Int.mul_add, Int.mul_assoc, Int.mul_assoc])
    (fun m t hm f1 h1 hv => by
      obtain ⟨m1, a1, b1, hm1, e1⟩ := h1 (fun i hi p q => by rw [z_dot_mul, hv i hi p q, Int.mul_zero])
      refine ⟨m1 * m, a1, b1, Int.mul_ne_zero hm1 (by omega), fun k hk => ?_⟩
      rw [Int.mul_assoc]
      exact e1 k hk)
    (n + 1) _ z_cnt f
    (fun i hi h1 h2 => by
      have := z_dot_lin d (A i) (fun k => x k + y k) z M 1
      simp only [Int.one_mul] at this
      rw [this, z_dot_add, h1, h2, hz i hi h1 h2]
      simp)
  obtain ⟨m, a, b, hm, e⟩ := this
  refine ⟨m, a - m * M, b - m * M, hm, fun k hk => ?_⟩
  have := e k hk
  rw [Int.mul_add] at this
  rw [Int.sub_mul, Int.sub_mul]
  have e2 : m * (M * (x k + y k)) = m * M * x k + m * M * y k := by rw [← Int.mul_assoc, Int.mul_add]
  omega
/-- between neighbours, where the new inequality holds with equality -/
theorem dd_tight {x y v : Nat → Int} {g : Int} (fx : z_feas d n A x) (fy : z_feas d n A y) (sx : 0 < z_dot d (A n) x) (sy : z_dot d (A n) y < 0) (hg : 0 < g) (e : ∀ k, k < d → g * v k = z_dot d (A n) x * y k - z_dot d (A n) y * x k) : (∀ i, i < n → (z_dot d (A i) v = 0 ↔ z_dot d (A i) x = 0 ∧ z_dot d (A i) y = 0)) ∧ z_dot d (A n) v = 0 ∧ z_feas d n A v := by
  have ed : ∀ i, g * z_dot d (A i) v = z_dot d (A n) x * z_dot d (A i) y - z_dot d (A n) y * z_dot d (A i) x := fun i => by
    rw [← z_dot_mul, ← z_dot_sub]
    exact z_dot_congr e
  have en := ed n
  rw [Int.mul_comm (z_dot d (A n) x), Int.sub_self] at en
  generalize z_dot d (A n) x = p at *
  generalize z_dot d (A n) y = q at *
  have hn : ∀ i, i < n → 0 ≤ p * z_dot d (A i) y ∧ 0 ≤ -q * z_dot d (A i) x := fun i hi => ⟨Int.mul_nonneg (by omega) (fy i hi), Int.mul_nonneg (by omega) (fx i hi)⟩
  refine ⟨fun i hi => ⟨fun h => ?_, fun h => ?_⟩, ?_, fun i hi => ?_⟩
  · have h1 := ed i
    have h2 := hn i hi
    rw [Int.neg_mul] at h2
    rw [h, Int.mul_zero] at h1
    have h3 : p * z_dot d (A i) y = 0 := by omega
    have h4 : q * z_dot d (A i) x = 0 := by omega
    exact ⟨(Int.mul_eq_zero.1 h4).resolve_left (by omega), (Int.mul_eq_zero.1 h3).resolve_left (by omega)⟩
  · have h1 := ed i
    rw [h.1, h.2, Int.mul_zero, Int.mul_zero, Int.sub_zero] at h1
    exact (Int.mul_eq_zero.1 h1).resolve_left (by omega)
  · exact (Int.mul_eq_zero.1 en).resolve_left (by omega)
  · have h1 := ed i
    have h2 := hn i hi
    rw [Int.neg_mul] at h2
    have h3 : 0 ≤ g * z_dot d (A i) v := by omega
    exact Int.le_of_mul_le_mul_left (by rw [Int.mul_zero]; exact h3) hg
theorem dd_between (u : z_unit d n A) {x y v : Nat → Int} {g : Int} (fx : z_feas d n A x) (fy : z_feas d n A y) (adj : z_adj d n A x y) (sx : 0 < z_dot d (A n) x) (sy : z_dot d (A n) y < 0) (hg : 0 < g) (hv : z_prim d v) (e : ∀ k, k < d → g * v k = z_dot d (A n) x * y k - z_dot d (A n) y * x k) : z_ext d (n + 1) A v := by
  obtain ⟨t1, t2, t3⟩ := dd_tight fx fy sx sy hg e
  refine ⟨t3.s (by omega), hv, fun w hw => ?_⟩
  obtain ⟨m, a, b, hm, e2⟩ := z_span u fx fy adj (z := w) (fun i hi h1 h2 => hw i (by omega) ((t1 i hi).2 ⟨h1, h2⟩))
  have wn := hw n (by omega) t2
  have e3 : a * z_dot d (A n) x + b * z_dot d (A n) y = 0 := by
    rw [← z_dot_lin, ← z_dot_congr e2, z_dot_mul, wn, Int.mul_zero]
  refine ⟨z_dot d (A n) x * m, b * g, Int.mul_ne_zero (by omega) hm, fun k hk => ?_⟩
  have e4 := e k hk
  have e5 := e2 k hk
  generalize z_dot d (A n) x = p at *
  generalize z_dot d (A n) y = q at *
  calc p * m * w k = p * (m * w k) := by ac_rfl
    _ = p * (a * x k + b * y k) := by rw [e5]
    _ = a * p * x k + b * (p * y k) := by rw [Int.mul_add]; congr 1 <;> ac_rfl
    _ = (-(b * q)) * x k + b * (p * y k) := by rw [show a * p = -(b * q) by omega]
    _ = b * (p * y k - q * x k) := by rw [Int.mul_sub, Int.neg_mul, ← Int.mul_assoc b q]; omega
    _ = b * g * v k := by rw [← e4, Int.mul_assoc]
/-- a vector of the cone on which s is above 0 has an extreme one of that kind, that vanishes where it does -/
theorem dd_pos (u : z_unit d n A) {S : Nat → Prop} {a : Nat → Int} {σ : Int} {t : Nat → Int} (f : z_feas d n A t) (hS : ∀ i, i < n → S i → z_dot d (A i) t = 0) (hp : 0 < σ * z_dot d a t) : ∃ x, z_ext d n A x ∧ (∀ i, i < n → S i → z_dot d (A i) x = 0) ∧ 0 < σ * z_dot d a x := by
  refine z_gen u (P := fun t => (∀ i, i < n → S i → z_dot d (A i) t = 0) → 0 < σ * z_dot d a t → ∃ x, z_ext d n A x ∧ (∀ i, i < n → S i → z_dot d (A i) x = 0) ∧ 0 < σ * z_dot d a x) ?_ ?_ ?_ ?_ ?_ ?_ (n + 1) t z_cnt f hS hp
  · intro s t e h h1 h2
    exact h (fun i hi hs => by rw [z_dot_congr e]; exact h1 i hi hs) (by rw [z_dot_congr e]; exact h2)
  · intro _ h
    rw [z_dot_0 (fun _ _ => rfl), Int.mul_zero] at h
    omega
  · intro v hv h1 h2
    exact ⟨v, hv, h1, h2⟩
  · intro s t f1 f2 h1 h2 h3 h4
    have hv' : ∀ i, i < n → S i → z_dot d (A i) s = 0 ∧ z_dot d (A i) t = 0 := fun i hi e1 => by
      have := h3 i hi e1
      rw [z_dot_add] at this
      have := f1 i hi
      have := f2 i hi
      omega
    rw [z_dot_add, Int.mul_add] at h4
    by_cases h5 : 0 < σ * z_dot d a s
    · exact h1 (fun i hi hs => (hv' i hi hs).1) h5
    · exact h2 (fun i hi hs => (hv' i hi hs).2) (by omega)
  · intro m t hm f1 h1 h2 h3
    refine h1 (fun i hi hs => ?_) ?_
    · have := h2 i hi hs
      rw [z_dot_mul] at this
      exact (Int.mul_eq_zero.1 this).resolve_left (by omega)
    · rw [z_dot_mul, Int.mul_left_comm] at h3
      exact Int.lt_of_mul_lt_mul_left (by rw [Int.mul_zero]; exact h3) (by omega : 0 ≤ m)
  · intro m t hm f1 h1 h2 h3
    refine h1 (fun i hi hs => by rw [z_dot_mul, h2 i hi hs, Int.mul_zero]) ?_
    rw [z_dot_mul, Int.mul_left_comm]
    exact Int.mul_pos hm h3
end dd
