/-! ===== cones: one inequality more, none is missing ===== -/
section dd2
variable {d n : Nat} {A : Nat → Nat → Int}
theorem z_ext.same (u : z_unit d n A) {v w : Nat → Int} (hv : z_ext d n A v) (hw : z_ext d n A w) (h : ∀ i, i < n → z_dot d (A i) v = 0 → z_dot d (A i) w = 0) : ∀ k, k < d → v k = w k := by
  obtain ⟨a, b, ha, e⟩ := hv.2.2 w h
  exact z_prim_eq hv.2.1 hw.2.1 (hv.1.nn u) (hw.1.nn u) ha e
/-- two extreme vectors and a third among their sums -/
theorem dd_third (u : z_unit d n A) {x y t : Nat → Int} (hx : z_ext d n A x) (hy : z_ext d n A y) (ht : z_ext d n A t) (hne : ∃ k, k < d ∧ x k ≠ y k) {m a b : Int} (hm : 0 < m) (e : ∀ k, k < d → m * t k = a * x k + b * y k) : (∀ k, k < d → t k = x k) ∨ ∀ k, k < d → t k = y k := by
  have ed : ∀ i, m * z_dot d (A i) t = a * z_dot d (A i) x + b * z_dot d (A i) y := fun i => by
    rw [← z_dot_mul, ← z_dot_lin]
    exact z_dot_congr e
  by_cases ha : a < 0
  · exfalso
    have : ∀ k, k < d → y k = x k := hy.same u hx (fun i hi h => by
      have h1 := ed i
      rw [h, Int.mul_zero, Int.add_zero] at h1
      have h2 : 0 ≤ m * z_dot d (A i) t := Int.mul_nonneg (by omega) (ht.1 i hi)
      have h3 : 0 ≤ -a * z_dot d (A i) x := Int.mul_nonneg (by omega) (hx.1 i hi)
      rw [Int.neg_mul] at h3
      have h4 : a * z_dot d (A i) x = 0 := by omega
      exact (Int.mul_eq_zero.1 h4).resolve_left (by omega))
    obtain ⟨k, hk, hn⟩ := hne
    exact hn (this k hk).symm
  · by_cases hb : b < 0
    · exfalso
      have : ∀ k, k < d → x k = y k := hx.same u hy (fun i hi h => by
        have h1 := ed i
        rw [h, Int.mul_zero, Int.zero_add] at h1
        have h2 : 0 ≤ m * z_dot d (A i) t := Int.mul_nonneg (by omega) (ht.1 i hi)
        have h3 : 0 ≤ -b * z_dot d (A i) y := Int.mul_nonneg (by omega) (hy.1 i hi)
        rw [Int.neg_mul] at h3
        have h4 : b * z_dot d (A i) y = 0 := by omega
        exact (Int.mul_eq_zero.1 h4).resolve_left (by omega))
      obtain ⟨k, hk, hn⟩ := hne
      exact hn (this k hk)
    · have hn : ∀ i, i < n → 0 ≤ a * z_dot d (A i) x ∧ 0 ≤ b * z_dot d (A i) y := fun i hi => ⟨Int.mul_nonneg (by omega) (hx.1 i hi), Int.mul_nonneg (by omega) (hy.1 i hi)⟩
      by_cases ha0 : a = 0
      · by_cases hb0 : b = 0
        · exfalso
          obtain ⟨k, hk, hk0⟩ := ht.2.1.1
          have := e k hk
          rw [ha0, hb0, Int.zero_mul, Int.zero_mul, Int.add_zero] at this
          exact hk0 ((Int.mul_eq_zero.1 this).resolve_left (by omega))
        · right
          exact ht.same u hy (fun i hi h => by
            have h1 := ed i
            rw [h, Int.mul_zero] at h1
            have h2 := hn i hi
            have h4 : b * z_dot d (A i) y = 0 := by omega
            exact (Int.mul_eq_zero.1 h4).resolve_left (by omega))
      · left
        exact ht.same u hx (fun i hi h => by
          have h1 := ed i
          rw [h, Int.mul_zero] at h1
          have h2 := hn i hi
          have h4 : a * z_dot d (A i) x = 0 := by omega
          exact (Int.mul_eq_zero.1 h4).resolve_left (by omega))
theorem dd_complete (u : z_unit d n A) {v : Nat → Int} (hv : z_ext d (n + 1) A v) : z_ext d n A v ∨ ∃ x y, z_ext d n A x ∧ z_ext d n A y ∧ 0 < z_dot d (A n) x ∧ z_dot d (A n) y < 0 ∧ z_adj d n A x y ∧ ∃ g : Int, 0 < g ∧ ∀ k, k < d → g * v k = z_dot d (A n) x * y k - z_dot d (A n) y * x k := by
  by_cases hk : z_ker d n A v
  · exact Or.inl ⟨hv.1.p, hv.2.1, hk⟩
  · right
    have hz : ∃ z, (∀ i, i < n → z_dot d (A i) v = 0 → z_dot d (A i) z = 0) ∧ ¬ ∃ a b : Int, a ≠ 0 ∧ ∀ k, k < d → a * z k = b * v k := Classical.byContradiction (fun y => hk (fun w hw => Classical.byContradiction (fun z2 => y ⟨w, hw, z2⟩)))
    have hv0 : z_dot d (A n) v = 0 := Classical.byContradiction (fun h => hk (fun w hw => hv.2.2 w (fun i hi z => by
      by_cases e : i = n
      · rw [e] at z; exact absurd z h
      · exact hw i (by omega) z)))
    obtain ⟨z, hz1, hz2⟩ := hz
    have kv : ∀ w, (∀ i, i < n → z_dot d (A i) v = 0 → z_dot d (A i) w = 0) → z_dot d (A n) w = 0 → ∃ a b : Int, a ≠ 0 ∧ ∀ k, k < d → a * w k = b * v k := fun w h1 h2 => hv.2.2 w (fun i hi h => by
      by_cases e : i = n
      · rw [e]; exact h2
      · exact h1 i (by omega) h)
    have hzn : z_dot d (A n) z ≠ 0 := fun h => hz2 (kv z hz1 h)
    obtain ⟨M, hM, f1, f2⟩ := z_far hv.1.p hz1
    have d1 : ∀ i, z_dot d (A i) (fun k => M * v k + z k) = M * z_dot d (A i) v + z_dot d (A i) z := fun i => by
      have := z_dot_lin d (A i) v z M 1
      simp only [Int.one_mul] at this
      exact this
    have d2 : ∀ i, z_dot d (A i) (fun k => M * v k + -1 * z k) = M * z_dot d (A i) v + -1 * z_dot d (A i) z := fun i => z_dot_lin d (A i) v z M (-1)
    have s1 : ∀ i, i < n → z_dot d (A i) v = 0 → z_dot d (A i) (fun k => M * v k + z k) = 0 := fun i hi h => by rw [d1, h, hz1 i hi h]; simp
    have s2 : ∀ i, i < n → z_dot d (A i) v = 0 → z_dot d (A i) (fun k => M * v k + -1 * z k) = 0 := fun i hi h => by rw [d2, h, hz1 i hi h]; simp
    have e1 := d1 n
    have e2 := d2 n
    rw [hv0, Int.mul_zero, Int.zero_add] at e1 e2
    have hxy : ∃ x y, (z_ext d n A x ∧ (∀ i, i < n → z_dot d (A i) v = 0 → z_dot d (A i) x = 0) ∧ 0 < 1 * z_dot d (A n) x) ∧ (z_ext d n A y ∧ (∀ i, i < n → z_dot d (A i) v = 0 → z_dot d (A i) y = 0) ∧ 0 < -1 * z_dot d (A n) y) := by
      by_cases hp : 0 < z_dot d (A n) z
      · obtain ⟨x, hx⟩ := dd_pos u (a := A n) (σ := 1) f1 (S := fun i => z_dot d (A i) v = 0) s1 (by rw [e1]; omega)
        obtain ⟨y, hy⟩ := dd_pos u (a := A n) (σ := -1) f2 (S := fun i => z_dot d (A i) v = 0) s2 (by rw [e2]; omega)
        exact ⟨x, y, hx, hy⟩
      · obtain ⟨x, hx⟩ := dd_pos u (a := A n) (σ := 1) f2 (S := fun i => z_dot d (A i) v = 0) s2 (by rw [e2]; omega)
        obtain ⟨y, hy⟩ := dd_pos u (a := A n) (σ := -1) f1 (S := fun i => z_dot d (A i) v = 0) s1 (by rw [e1]; omega)
        exact ⟨x, y, hx, hy⟩
    obtain ⟨x, y, ⟨hx, tx, px⟩, hy, ty, py⟩ := hxy
    have sx : 0 < z_dot d (A n) x := by omega
    have sy : z_dot d (A n) y < 0 := by omega
    have hne : ∃ k, k < d ∧ x k ≠ y k := Classical.byContradiction (fun h => by
      have := z_dot_congr (d := d) (a := A n) (v := x) (w := y) (fun k hk => Classical.byContradiction (fun h2 => h ⟨k, hk, h2⟩))
      omega)
    have hq : ∀ t, (∀ i, i < n → z_dot d (A i) v = 0 → z_dot d (A i) t = 0) → ∃ a b : Int, a ≠ 0 ∧ ∀ k, k < d → a * (z_dot d (A n) x * t k - z_dot d (A n) t * x k) = b * v k := fun t ht => kv _ (fun i hi h => by rw [z_dot_sub, ht i hi h, tx i hi h]; simp) (by rw [z_dot_sub, Int.mul_comm, Int.sub_self])
    obtain ⟨a, b, ha, eq⟩ := hq y ty
    have qnn : ∀ k, k < d → 0 ≤ z_dot d (A n) x * y k - z_dot d (A n) y * x k := fun k hk => by
      have h1 : 0 ≤ z_dot d (A n) x * y k := Int.mul_nonneg (by omega) (hy.1.nn u k hk)
      have h2 : 0 ≤ -z_dot d (A n) y * x k := Int.mul_nonneg (by omega) (hx.1.nn u k hk)
      rw [Int.neg_mul] at h2
      omega
    have qnz : ∃ k, k < d ∧ z_dot d (A n) x * y k - z_dot d (A n) y * x k ≠ 0 := by
      obtain ⟨k, hk, h⟩ := hy.2.1.1
      refine ⟨k, hk, fun h3 => ?_⟩
      have h1 : 0 < z_dot d (A n) x * y k := Int.mul_pos sx (by have := hy.1.nn u k hk; omega)
      have h2 : 0 ≤ -z_dot d (A n) y * x k := Int.mul_nonneg (by omega) (hx.1.nn u k hk)
      rw [Int.neg_mul] at h2
      omega
    obtain ⟨g, hg, p, hp, ep⟩ := z_part qnz
    have hvp : ∀ k, k < d → v k = p k := z_prim_eq (a := a * g) (b := b) hv.2.1 hp (hv.1.p.nn u) (fun k hk => by
      have h1 := qnn k hk
      rw [ep k hk] at h1
      exact Int.le_of_mul_le_mul_left (by rw [Int.mul_zero]; exact h1) hg) (Int.mul_ne_zero ha (by omega)) (fun k hk => by rw [Int.mul_assoc, ← ep k hk]; exact eq k hk)
    have eg : ∀ k, k < d → g * v k = z_dot d (A n) x * y k - z_dot d (A n) y * x k := fun k hk => by rw [hvp k hk]; exact (ep k hk).symm
    refine ⟨x, y, hx, hy, sx, sy, fun t ht hc => ?_, g, hg, eg⟩
    obtain ⟨a', b', ha', eq'⟩ := hq t (fun i hi h => hc i hi (tx i hi h) (ty i hi h))
    have em : ∀ k, k < d → a' * g * z_dot d (A n) x * t k = (a' * g * z_dot d (A n) t - b' * z_dot d (A n) y) * x k + b' * z_dot d (A n) x * y k := fun k hk => by
      have h1 := eq' k hk
      have h2 := eg k hk
      generalize z_dot d (A n) x = P at *
      generalize z_dot d (A n) y = Q at *
      generalize z_dot d (A n) t = R at *
      have h3 : g * (a' * (P * t k - R * x k)) = b' * (g * v k) := by rw [h1]; ac_rfl
      rw [h2] at h3
      simp only [Int.mul_sub] at h3
      have h4 : g * (a' * (P * t k)) = a' * g * P * t k := by ac_rfl
      have h5 : g * (a' * (R * x k)) = a' * g * R * x k := by ac_rfl
      rw [h4, h5, ← Int.mul_assoc, ← Int.mul_assoc] at h3
      rw [Int.sub_mul]
      omega
    have hm : a' * g * z_dot d (A n) x ≠ 0 := Int.mul_ne_zero (Int.mul_ne_zero ha' (by omega)) (by omega)
    by_cases hm2 : 0 < a' * g * z_dot d (A n) x
    · exact dd_third u hx hy ht hne hm2 em
    · refine dd_third u hx hy ht hne (m := -(a' * g * z_dot d (A n) x)) (a := -(a' * g * z_dot d (A n) t - b' * z_dot d (A n) y)) (b := -(b' * z_dot d (A n) x)) (by omega) (fun k hk => ?_)
      have := em k hk
      rw [Int.neg_mul, Int.neg_mul, Int.neg_mul]
      omega
/-- a neighbouring pair is known by what lies between -/
theorem dd_uniq {x y x' y' v v' : Nat → Int} {g g' : Int} (fx : z_ext d n A x) (fy : z_ext d n A y) (adj : z_adj d n A x y) (sx : 0 < z_dot d (A n) x) (sy : z_dot d (A n) y < 0) (hg : 0 < g) (e : ∀ k, k < d → g * v k = z_dot d (A n) x * y k - z_dot d (A n) y * x k) (fx' : z_ext d n A x') (fy' : z_ext d n A y') (sx' : 0 < z_dot d (A n) x') (sy' : z_dot d (A n) y' < 0) (hg' : 0 < g') (e' : ∀ k, k < d → g' * v' k = z_dot d (A n) x' * y' k - z_dot d (A n) y' * x' k) (hv : ∀ k, k < d → v k = v' k) : (∀ k, k < d → x' k = x k) ∧ ∀ k, k < d → y' k = y k := by
  have t := (dd_tight fx.1 fy.1 sx sy hg e).1
  have t' := (dd_tight fx'.1 fy'.1 sx' sy' hg' e').1
  have h : ∀ i, i < n → z_dot d (A i) x = 0 → z_dot d (A i) y = 0 → z_dot d (A i) x' = 0 ∧ z_dot d (A i) y' = 0 := fun i hi h1 h2 => (t' i hi).1 (by rw [← z_dot_congr hv]; exact (t i hi).2 ⟨h1, h2⟩)
  constructor
  · rcases adj x' fx' (fun i hi h1 h2 => (h i hi h1 h2).1) with z | z
    · exact z
    · have := z_dot_congr (a := A n) z; omega
  · rcases adj y' fy' (fun i hi h1 h2 => (h i hi h1 h2).2) with z | z
    · have := z_dot_congr (a := A n) z; omega
    · exact z
theorem dd_new {x y v t : Nat → Int} {g : Int} (fx : z_ext d n A x) (fy : z_ext d n A y) (adj : z_adj d n A x y) (sx : 0 < z_dot d (A n) x) (sy : z_dot d (A n) y < 0) (hg : 0 < g) (e : ∀ k, k < d → g * v k = z_dot d (A n) x * y k - z_dot d (A n) y * x k) (ht : z_ext d n A t) : ∃ k, k < d ∧ t k ≠ v k := Classical.byContradiction (fun hn => by
  have hv : ∀ k, k < d → t k = v k := fun k hk => Classical.byContradiction (fun h => hn ⟨k, hk, h⟩)
  obtain ⟨t1, t2, -⟩ := dd_tight fx.1 fy.1 sx sy hg e
  have ht0 : z_dot d (A n) t = 0 := by rw [z_dot_congr hv]; exact t2
  rcases adj t ht (fun i hi h1 h2 => by rw [z_dot_congr hv]; exact (t1 i hi).2 ⟨h1, h2⟩) with z | z
  · have := z_dot_congr (a := A n) z; omega
  · have := z_dot_congr (a := A n) z; omega)
end dd2
