/-! ===== cones: a vector's primitive part; every vector of the cone is a sum of extreme ones ===== -/
def z_gcd (d : Nat) (v : Nat → Int) : Nat := match d with
  | 0 => 0
  | d + 1 => Nat.gcd (z_gcd d v) (v d).natAbs
theorem z_gcd_dvd {v : Nat → Int} : ∀ (d k : Nat), k < d → (z_gcd d v : Int) ∣ v k := by
  intro d
  induction d with
  | zero => intro k hk; omega
  | succ d ih =>
    intro k hk
    have h1 : ((Nat.gcd (z_gcd d v) (v d).natAbs : Nat) : Int) ∣ (z_gcd d v : Int) := Int.natCast_dvd_natCast.2 (Nat.gcd_dvd_left _ _)
    have h2 : ((Nat.gcd (z_gcd d v) (v d).natAbs : Nat) : Int) ∣ v d := Int.ofNat_dvd_left.2 (Nat.gcd_dvd_right _ _)
    unfold z_gcd
    by_cases e : k = d
    · rw [e]; exact h2
    · exact Int.dvd_trans h1 (ih k (by omega))
theorem z_dvd_gcd {v : Nat → Int} {p : Int} : ∀ d : Nat, (∀ k, k < d → p ∣ v k) → p ∣ (z_gcd d v : Int) := by
  intro d
  induction d with
  | zero => intro _; exact Int.dvd_zero p
  | succ d ih =>
    intro h
    unfold z_gcd
    have h1 := ih (fun k hk => h k (by omega))
    have h2 := h d (by omega)
    rw [← Int.natAbs_dvd] at h1 h2 ⊢
    rw [Int.natCast_dvd_natCast] at h1
    rw [Int.ofNat_dvd_left] at h2
    exact Int.natCast_dvd_natCast.2 (Nat.dvd_gcd h1 h2)
theorem z_gcd_mul {v : Nat → Int} {c : Int} : ∀ d : Nat, z_gcd d (fun k => c * v k) = c.natAbs * z_gcd d v := by
  intro d
  induction d with
  | zero => rfl
  | succ d ih =>
    unfold z_gcd
    rw [ih, Int.natAbs_mul, Nat.gcd_mul_left]
theorem z_gcd_congr {v w : Nat → Int} : ∀ d : Nat, (∀ k, k < d → v k = w k) → z_gcd d v = z_gcd d w := by
  intro d
  induction d with
  | zero => intro _; rfl
  | succ d ih =>
    intro h
    unfold z_gcd
    rw [ih (fun k hk => h k (by omega)), h d (by omega)]
theorem z_gcd_0 {v : Nat → Int} {d : Nat} (h : z_gcd d v = 0) : ∀ k, k < d → v k = 0 := by
  intro k hk
  have := z_gcd_dvd d k hk (v := v)
  rw [h] at this
  exact Int.zero_dvd.1 this
theorem z_prim.g {d : Nat} {v : Nat → Int} (h : z_prim d v) : z_gcd d v = 1 := by
  have := h.2 (z_gcd d v) (fun k hk => z_gcd_dvd d k hk)
  have h2 : z_gcd d v ∣ 1 := by rw [← Int.natCast_dvd_natCast]; exact this
  exact Nat.dvd_one.1 h2
theorem z_prim_of {d : Nat} {v : Nat → Int} (h : z_gcd d v = 1) : z_prim d v := by
  refine ⟨?_, fun p hp => ?_⟩
  · refine Classical.byContradiction (fun hn => ?_)
    have : ∀ k, k < d → v k = 0 := fun k hk => Classical.byContradiction (fun z => hn ⟨k, hk, z⟩)
    rw [z_gcd_congr (w := fun k => 0 * v k) d (fun k hk => by rw [this k hk]; simp), z_gcd_mul] at h
    simp at h
  · have := z_dvd_gcd d hp
    rw [h] at this
    exact this
/-- the primitive part -/
theorem z_part {d : Nat} {v : Nat → Int} (h : ∃ k, k < d ∧ v k ≠ 0) : ∃ g : Int, 0 < g ∧ ∃ y, z_prim d y ∧ ∀ k, k < d → v k = g * y k := by
  obtain ⟨k0, hk0, hv⟩ := h
  have hg : 0 < z_gcd d v := by
    rcases Nat.eq_zero_or_pos (z_gcd d v) with h | h
    · exact absurd (z_gcd_0 h k0 hk0) hv
    · exact h
  refine ⟨z_gcd d v, by omega, fun k => v k / (z_gcd d v : Int), ?_, fun k hk => ?_⟩
  · apply z_prim_of
    have e : ∀ k, k < d → v k = (z_gcd d v : Int) * (v k / (z_gcd d v : Int)) := fun k hk => (Int.mul_ediv_cancel' (z_gcd_dvd d k hk)).symm
    have h2 := z_gcd_congr (w := fun k => (z_gcd d v : Int) * (v k / (z_gcd d v : Int))) d e
    rw [z_gcd_mul] at h2
    have h3 : (z_gcd d v : Int).natAbs = z_gcd d v := Int.natAbs_natCast _
    rw [h3] at h2
    have h4 : z_gcd d v * 1 = z_gcd d v * z_gcd d (fun k => v k / (z_gcd d v : Int)) := by rw [Nat.mul_one]; exact h2
    exact (Nat.eq_of_mul_eq_mul_left hg h4).symm
  · exact (Int.mul_ediv_cancel' (z_gcd_dvd d k hk)).symm
/-- primitive vectors on one line, none below 0, are the same -/
theorem z_prim_eq {d : Nat} {v w : Nat → Int} {a b : Int} (hv : z_prim d v) (hw : z_prim d w) (nv : ∀ k, k < d → 0 ≤ v k) (nw : ∀ k, k < d → 0 ≤ w k) (ha : a ≠ 0) (e : ∀ k, k < d → a * w k = b * v k) : ∀ k, k < d → v k = w k := by
  have h := z_gcd_congr (v := fun k => a * w k) (w := fun k => b * v k) d e
  rw [z_gcd_mul, z_gcd_mul, hv.g, hw.g] at h
  have h2 : a = b ∨ a = -b := by omega
  rcases h2 with h2 | h2
  · intro k hk
    have := e k hk
    rw [h2] at this
    exact (Int.eq_of_mul_eq_mul_left (by omega) this).symm
  · exfalso
    obtain ⟨k, hk, hne⟩ := hv.1
    have e1 := e k hk
    rw [h2, Int.neg_mul] at e1
    have e2 : b * (v k + w k) = 0 := by rw [Int.mul_add]; omega
    have hb : b ≠ 0 := by omega
    have := (Int.mul_eq_zero.1 e2).resolve_left hb
    have n1 := nv k hk
    have n2 := nw k hk
    omega
/-- the least of some fractions -/
theorem z_min {b a : Nat → Int} : ∀ n : Nat, (∃ i, i < n ∧ 0 < b i) → ∃ i, i < n ∧ 0 < b i ∧ ∀ j, j < n → 0 < b j → a i * b j ≤ a j * b i := by
  intro n
  induction n with
  | zero => rintro ⟨i, hi, -⟩; omega
  | succ n ih =>
    rintro ⟨i, hi, hb⟩
    by_cases h1 : ∃ i, i < n ∧ 0 < b i
    · obtain ⟨i0, hi0, hb0, hm⟩ := ih h1
      by_cases h2 : 0 < b n ∧ a n * b i0 < a i0 * b n
      · refine ⟨n, by omega, h2.1, fun j hj hbj => ?_⟩
        by_cases ej : j = n
        · rw [ej]; exact Int.le_refl _
        · have h3 := hm j (by omega) hbj
          have h4 : (a n * b j) * b i0 ≤ (a j * b n) * b i0 := by
            have h5 : a n * b i0 * b j ≤ a i0 * b n * b j := Int.mul_le_mul_of_nonneg_right (by omega) (by omega)
            have h6 : a i0 * b j * b n ≤ a j * b i0 * b n := Int.mul_le_mul_of_nonneg_right h3 (by omega)
            calc a n * b j * b i0 = a n * b i0 * b j := by ac_rfl
              _ ≤ a i0 * b n * b j := h5
              _ = a i0 * b j * b n := by ac_rfl
              _ ≤ a j * b i0 * b n := h6
              _ = a j * b n * b i0 := by ac_rfl
          exact Int.le_of_mul_le_mul_right h4 hb0
      · refine ⟨i0, by omega, hb0, fun j hj hbj => ?_⟩
        by_cases ej : j = n
        · subst ej
          have : ¬ a j * b i0 < a i0 * b j := fun z => h2 ⟨hbj, z⟩
          omega
        · exact hm j (by omega) hbj
    · have ei : i = n := Classical.byContradiction (fun z => h1 ⟨i, by omega, hb⟩)
      subst ei
      refine ⟨i, by omega, hb, fun j hj hbj => ?_⟩
      have ej : j = i := Classical.byContradiction (fun z => h1 ⟨j, by omega, hbj⟩)
      rw [ej]
      exact Int.le_refl _
theorem q_cnt_mono {n : Nat} {p q : Nat → Prop} [DecidablePred p] [DecidablePred q] (h : ∀ i, i < n → p i → q i) : q_cnt n p ≤ q_cnt n q := by
  induction n with
  | zero => exact Nat.le_refl _
  | succ n ih =>
    rw [q_cnt_s, q_cnt_s]
    have h1 := ih (fun i hi => h i (by omega))
    by_cases hp : p n
    · rw [if_pos hp, if_pos (h n (by omega) hp)]; omega
    · rw [if_neg hp]
      split <;> omega
theorem q_cnt_lt {n : Nat} {p q : Nat → Prop} [DecidablePred p] [DecidablePred q] (h : ∀ i, i < n → p i → q i) {i0 : Nat} (hi : i0 < n) (h1 : q i0) (h2 : ¬ p i0) : q_cnt n p < q_cnt n q := by
  induction n with
  | zero => omega
  | succ n ih =>
    rw [q_cnt_s, q_cnt_s]
    by_cases e : i0 = n
    · subst e
      rw [if_neg h2, if_pos h1]
      have := q_cnt_mono (n := i0) (fun i hi => h i (by omega))
      omega
    · have h3 := ih (fun i hi => h i (by omega)) (by omega)
      by_cases hp : p n
      · rw [if_pos hp, if_pos (h n (by omega) hp)]; omega
      · rw [if_neg hp]
        split <;> omega

