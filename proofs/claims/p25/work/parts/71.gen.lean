/-! ===== cones: every vector is a sum of extreme ones ===== -/
theorem z_feas.nn {d n : Nat} {A : Nat → Nat → Int} (u : z_unit d n A) {v : Nat → Int} (f : z_feas d n A v) : ∀ k, k < d → 0 ≤ v k := fun k hk => by
  have := f k (by have := u.1; omega)
  rw [z_dot_unit u hk] at this
  exact this
theorem z_feas.congr {d n : Nat} {A : Nat → Nat → Int} {v w : Nat → Int} (f : z_feas d n A v) (h : ∀ k, k < d → v k = w k) : z_feas d n A w := fun i hi => by rw [← z_dot_congr h]; exact f i hi
theorem z_ker.congr {d n : Nat} {A : Nat → Nat → Int} {v w : Nat → Int} (f : z_ker d n A v) (h : ∀ k, k < d → v k = w k) : z_ker d n A w := fun y hy => by
  obtain ⟨a, b, ha, e⟩ := f y (fun i hi z => hy i hi (by rw [← z_dot_congr h]; exact z))
  exact ⟨a, b, ha, fun k hk => by rw [← h k hk]; exact e k hk⟩
theorem z_prim.congr {d : Nat} {v w : Nat → Int} (p : z_prim d v) (h : ∀ k, k < d → v k = w k) : z_prim d w := z_prim_of (by rw [← z_gcd_congr d h]; exact p.g)
theorem z_ext.congr {d n : Nat} {A : Nat → Nat → Int} {v w : Nat → Int} (x : z_ext d n A v) (h : ∀ k, k < d → v k = w k) : z_ext d n A w := ⟨x.1.congr h, x.2.1.congr h, x.2.2.congr h⟩
theorem z_dot_add (d : Nat) (a v w : Nat → Int) : z_dot d a (fun k => v k + w k) = z_dot d a v + z_dot d a w := by
  have := z_dot_lin d a v w 1 1
  rw [Int.one_mul, Int.one_mul] at this
  rw [← this]
  exact z_dot_congr (fun k _ => by rw [Int.one_mul, Int.one_mul])
theorem z_dot_sub (d : Nat) (a v w : Nat → Int) (x y : Int) : z_dot d a (fun k => x * v k - y * w k) = x * z_dot d a v - y * z_dot d a w := by
  have := z_dot_lin d a v w x (-y)
  rw [Int.neg_mul, ← Int.sub_eq_add_neg] at this
  rw [← this]
  exact z_dot_congr (fun k _ => by rw [Int.neg_mul, ← Int.sub_eq_add_neg])
theorem z_dot_0 {d : Nat} {a v : Nat → Int} (h : ∀ k, k < d → v k = 0) : z_dot d a v = 0 := by
  rw [z_dot_congr (w := fun k => 0 * v k) (fun k hk => by rw [h k hk]; simp), z_dot_mul, Int.zero_mul]
/-- a part of a vector is extreme where its multiple is one -/
theorem z_ker_mul {d n : Nat} {A : Nat → Nat → Int} {x y : Nat → Int} {g : Int} (hg : 0 < g) (e : ∀ k, k < d → x k = g * y k) (h : z_ker d n A x) : z_ker d n A y := fun w hw => by
  obtain ⟨a, b, ha, e2⟩ := h w (fun i hi z => hw i hi (by
    rw [z_dot_congr e, z_dot_mul] at z
    exact (Int.mul_eq_zero.1 z).resolve_left (by omega)))
  exact ⟨a, b * g, ha, fun k hk => by rw [e2 k hk, e k hk, Int.mul_assoc]⟩
theorem z_feas_mul {d n : Nat} {A : Nat → Nat → Int} {x y : Nat → Int} {g : Int} (hg : 0 < g) (e : ∀ k, k < d → x k = g * y k) (h : z_feas d n A x) : z_feas d n A y := fun i hi => by
  have := h i hi
  rw [z_dot_congr e, z_dot_mul] at this
  exact Int.le_of_mul_le_mul_left (by rw [Int.mul_zero]; exact this) hg
theorem z_gen {d n : Nat} {A : Nat → Nat → Int} (u : z_unit d n A) {P : (Nat → Int) → Prop} (hc : ∀ x y : Nat → Int, (∀ k, k < d → x k = y k) → P x → P y) (h0 : P (fun _ => 0)) (he : ∀ v, z_ext d n A v → P v) (ha : ∀ x y, z_feas d n A x → z_feas d n A y → P x → P y → P (fun k => x k + y k)) (hm : ∀ (m : Int) x, 0 < m → z_feas d n A x → P x → P (fun k => m * x k)) (hd : ∀ (m : Int) x, 0 < m → z_feas d n A x → P (fun k => m * x k) → P x) : ∀ (N : Nat) (x : Nat → Int), q_cnt n (fun i => z_dot d (A i) x ≠ 0) < N → z_feas d n A x → P x := by
  intro N
  induction N with
  | zero => intro x h; omega
  | succ N ih =>
    intro x hN f
    by_cases hx : ∃ k, k < d ∧ x k ≠ 0
    · by_cases hk : z_ker d n A x
      · obtain ⟨g, hg, y, hy, e⟩ := z_part hx
        have fy := z_feas_mul hg e f
        exact hc _ _ (fun k hk => (e k hk).symm) (hm g y hg fy (he y ⟨fy, hy, z_ker_mul hg e hk⟩))
      · have hk2 : ∃ w, (∀ i, i < n → z_dot d (A i) x = 0 → z_dot d (A i) w = 0) ∧ ¬ ∃ a b : Int, a ≠ 0 ∧ ∀ k, k < d → a * w k = b * x k := Classical.byContradiction (fun z => hk (fun w hw => Classical.byContradiction (fun z2 => z ⟨w, hw, z2⟩)))
        obtain ⟨w, hw, hn⟩ := hk2
        obtain ⟨k0, hk0, hx0⟩ := hx
        have hpos : ∃ i, i < n ∧ 0 < z_dot d (A i) x := ⟨k0, by have := u.1; omega, by
          rw [z_dot_unit u hk0]
          have := f.nn u k0 hk0
          omega⟩
        obtain ⟨i0, hi0, hb0, hmin⟩ := z_min (b := fun i => z_dot d (A i) x) (a := fun i => z_dot d (A i) w) n hpos
        generalize hp : (fun k => z_dot d (A i0) x * w k - z_dot d (A i0) w * x k) = p
        have ep : ∀ i, z_dot d (A i) p = z_dot d (A i0) x * z_dot d (A i) w - z_dot d (A i0) w * z_dot d (A i) x := fun i => by rw [← hp, z_dot_sub]
        have tp : ∀ i, i < n → z_dot d (A i) x = 0 → z_dot d (A i) p = 0 := fun i hi z => by rw [ep, z, hw i hi z]; simp
        have fp : z_feas d n A p := fun i hi => by
          have := f i hi
          rcases (show z_dot d (A i) x = 0 ∨ 0 < z_dot d (A i) x by omega) with h | h
          · rw [tp i hi h]; exact Int.le_refl _
          · have h2 := hmin i hi h
            rw [ep, Int.mul_comm (z_dot d (A i0) x)]
            omega
        have p0 : z_dot d (A i0) p = 0 := by rw [ep, Int.mul_comm]; omega
        have cp : q_cnt n (fun i => z_dot d (A i) p ≠ 0) < q_cnt n (fun i => z_dot d (A i) x ≠ 0) := q_cnt_lt (fun i hi h z => h (tp i hi z)) hi0 (by omega) (fun z => z p0)
        have pp := ih p (by omega) fp
        have pnz : ∃ k, k < d ∧ p k ≠ 0 := Classical.byContradiction (fun z => hn ⟨z_dot d (A i0) x, z_dot d (A i0) w, by omega, fun k hk => by
          have : p k = 0 := Classical.byContradiction (fun z2 => z ⟨k, hk, z2⟩)
          rw [← hp] at this
          dsimp only at this
          omega⟩)
        obtain ⟨k1, hk1, hp1⟩ := pnz
        have hpos2 : ∃ i, i < n ∧ 0 < z_dot d (A i) p := ⟨k1, by have := u.1; omega, by
          rw [z_dot_unit u hk1]
          have := fp.nn u k1 hk1
          omega⟩
        obtain ⟨i1, hi1, hb1, hmin2⟩ := z_min (b := fun i => z_dot d (A i) p) (a := fun i => z_dot d (A i) x) n hpos2
        generalize hz : (fun k => z_dot d (A i1) p * x k - z_dot d (A i1) x * p k) = y
        have ey : ∀ i, z_dot d (A i) y = z_dot d (A i1) p * z_dot d (A i) x - z_dot d (A i1) x * z_dot d (A i) p := fun i => by rw [← hz, z_dot_sub]
        have fy : z_feas d n A y := fun i hi => by
          have h1 := f i hi
          have h2 := fp i hi
          rw [ey]
          rcases (show z_dot d (A i) p = 0 ∨ 0 < z_dot d (A i) p by omega) with h | h
          · rw [h, Int.mul_zero, Int.sub_zero]
            exact Int.mul_nonneg (by omega) h1
          · have h3 := hmin2 i hi h
            rw [Int.mul_comm (z_dot d (A i1) p)]
            omega
        have y1 : z_dot d (A i1) y = 0 := by rw [ey, Int.mul_comm]; omega
        have x1 : z_dot d (A i1) x ≠ 0 := fun z => by
          have := tp i1 hi1 z
          omega
        have x1' := f i1 hi1
        have cy : q_cnt n (fun i => z_dot d (A i) y ≠ 0) < q_cnt n (fun i => z_dot d (A i) x ≠ 0) := q_cnt_lt (fun i hi h z => h (by rw [ey, z, tp i hi z]; simp)) hi1 x1 (fun z => z y1)
        have py := ih y (by omega) fy
        have pm := hm (z_dot d (A i1) x) p (by omega) fp pp
        have fm : z_feas d n A (fun k => z_dot d (A i1) x * p k) := fun i hi => by rw [z_dot_mul]; exact Int.mul_nonneg (by omega) (fp i hi)
        have ps := ha _ _ fy fm py pm
        refine hd (z_dot d (A i1) p) x hb1 f (hc _ _ (fun k hk => ?_) ps)
        rw [← hz]
        dsimp only
        omega
    · exact hc _ _ (fun k hk => (Classical.byContradiction (fun z => hx ⟨k, hk, fun z2 => z z2.symm⟩) : (0 : Int) = x k)) h0

