/-! ===== the order of extreme dice; a list of them is the only one ===== -/
section order
variable {d n : Nat} {A : Nat → Nat → Int}
theorem z_ext.sum (u : z_unit d n A) {v : Nat → Int} (x : z_ext d n A v) : 0 < z_sum d v := by
  obtain ⟨k, hk, h⟩ := x.2.1.1
  have nn := x.1.nn u
  have := z_sum_ge nn k hk
  have := nn k hk
  omega
theorem z_first {p : Nat → Prop} : ∀ N : Nat, (∃ k, k < N ∧ p k) → ∃ k, k < N ∧ p k ∧ ∀ j, j < k → ¬ p j := by
  intro N
  induction N with
  | zero => rintro ⟨k, hk, -⟩; omega
  | succ N ih =>
    rintro ⟨k, hk, hp⟩
    by_cases h : ∃ k, k < N ∧ p k
    · obtain ⟨k', h1, h2, h3⟩ := ih h
      exact ⟨k', by omega, h2, h3⟩
    · exact ⟨k, hk, hp, fun j hj hpj => h ⟨j, by omega, hpj⟩⟩
theorem z_bef.irr {v w : Nat → Int} (h : z_bef d v w) (e : ∀ k, k < d → v k = w k) : False := by
  obtain ⟨k, hk, -, h2⟩ := h
  rw [z_sum_congr e, e k hk] at h2
  omega
theorem z_bef.congr {v w v' w' : Nat → Int} (h : z_bef d v w) (e1 : ∀ k, k < d → v k = v' k) (e2 : ∀ k, k < d → w k = w' k) : z_bef d v' w' := by
  obtain ⟨k, hk, h1, h2⟩ := h
  have s1 := z_sum_congr e1
  have s2 := z_sum_congr e2
  refine ⟨k, hk, fun j hj => ?_, ?_⟩
  · have := h1 j hj
    rw [s1, s2, e1 j (by omega), e2 j (by omega)] at this
    exact this
  · rw [s1, s2, e1 k hk, e2 k hk] at h2
    exact h2
theorem z_bef.asym {v w : Nat → Int} (h : z_bef d v w) (h' : z_bef d w v) : False := by
  obtain ⟨k, hk, h1, h2⟩ := h
  obtain ⟨k', hk', h1', h2'⟩ := h'
  rcases (show k < k' ∨ k = k' ∨ k' < k by omega) with e | e | e
  · have := h1' k e; omega
  · subst e; omega
  · have := h1 k' e; omega
theorem z_tri (u : z_unit d n A) {v w : Nat → Int} (hv : z_ext d n A v) (hw : z_ext d n A w) : (∀ k, k < d → v k = w k) ∨ z_bef d v w ∨ z_bef d w v := by
  by_cases h : ∃ k, k < d ∧ v k * z_sum d w ≠ w k * z_sum d v
  · obtain ⟨k, hk, h1, h2⟩ := z_first d h
    have h3 : ∀ j, j < k → v j * z_sum d w = w j * z_sum d v := fun j hj => Classical.byContradiction (fun z => h2 j hj z)
    rcases (show w k * z_sum d v < v k * z_sum d w ∨ v k * z_sum d w < w k * z_sum d v by omega) with e | e
    · exact Or.inr (Or.inl ⟨k, hk, h3, e⟩)
    · exact Or.inr (Or.inr ⟨k, hk, fun j hj => (h3 j hj).symm, e⟩)
  · left
    have s1 := hv.sum u
    refine z_prim_eq (a := z_sum d v) (b := z_sum d w) hv.2.1 hw.2.1 (hv.1.nn u) (hw.1.nn u) (by omega) (fun k hk => ?_)
    have : v k * z_sum d w = w k * z_sum d v := Classical.byContradiction (fun z => h ⟨k, hk, z⟩)
    rw [Int.mul_comm, ← this, Int.mul_comm]
theorem z_mulpos {a b s : Int} (hs : 0 < s) : a * s < b * s ↔ a < b := ⟨fun h => Int.lt_of_mul_lt_mul_right h (by omega), fun h => Int.mul_lt_mul_of_pos_right h hs⟩
theorem z_bef.trans {v w x : Nat → Int} (sv : 0 < z_sum d v) (sw : 0 < z_sum d w) (sx : 0 < z_sum d x) (h : z_bef d v w) (h' : z_bef d w x) : z_bef d v x := by
  obtain ⟨k, hk, h1, h2⟩ := h
  obtain ⟨k', hk', h1', h2'⟩ := h'
  have step : ∀ j, v j * z_sum d x * z_sum d w = (v j * z_sum d w) * z_sum d x := fun j => by ac_rfl
  have step2 : ∀ j, x j * z_sum d v * z_sum d w = (x j * z_sum d w) * z_sum d v := fun j => by ac_rfl
  have step3 : ∀ j, w j * z_sum d v * z_sum d x = w j * z_sum d x * z_sum d v := fun j => by ac_rfl
  have heq : ∀ j, v j * z_sum d w = w j * z_sum d v → w j * z_sum d x = x j * z_sum d w → v j * z_sum d x = x j * z_sum d v := fun j a b => by
    have : v j * z_sum d x * z_sum d w = x j * z_sum d v * z_sum d w := by rw [step, step2, a, ← b, step3]
    exact Int.eq_of_mul_eq_mul_right (by omega) this
  rcases (show k < k' ∨ k = k' ∨ k' < k by omega) with e | e | e
  · refine ⟨k, hk, fun j hj => heq j (h1 j hj) (h1' j (by omega)), ?_⟩
    rw [← z_mulpos sw, step, step2, ← h1' k e, ← step3]
    exact (z_mulpos sx).2 h2
  · subst e
    refine ⟨k, hk, fun j hj => heq j (h1 j hj) (h1' j hj), ?_⟩
    rw [← z_mulpos sw, step, step2]
    have a1 := (z_mulpos sx).2 h2
    have a2 := (z_mulpos sv).2 h2'
    rw [step3] at a1
    omega
  · refine ⟨k', hk', fun j hj => heq j (h1 j (by omega)) (h1' j hj), ?_⟩
    rw [← z_mulpos sw, step, step2, h1 k' e, step3]
    exact (z_mulpos sv).2 h2'
end order
theorem z_list_uniq {c : Nat} {g : Nat → Nat → Int32} {E E' : Nat × (Nat → Nat → Int64)} (h : z_list c g E) (h' : z_list c g E') : E.1 = E'.1 ∧ ∀ i, i < E.1 → ∀ k, E.2 i k = E'.2 i k ∨ 6 ≤ k := by
  obtain ⟨⟨p1, p2⟩, e1, e2, e3⟩ := h
  obtain ⟨⟨p1', p2'⟩, e1', e2', e3'⟩ := h'
  have key : ∀ i, i < E.1 → i < E'.1 → (∀ j, j < i → ∀ k, k < 2 * c → (E.2 j k).toInt = (E'.2 j k).toInt) → ∀ k, k < 2 * c → (E.2 i k).toInt = (E'.2 i k).toInt := by
    intro i hi hi' ih
    obtain ⟨j, hj, ej⟩ := e2' _ (e1 i hi).1
    obtain ⟨j', hj', ej'⟩ := e2 _ (e1' i hi').1
    have hji : i ≤ j := Classical.byContradiction (fun z => by
      have hlt : j < i := by omega
      exact (e3 j i hlt hi).irr (fun k hk => by rw [ih j hlt k hk, ej k hk]))
    have hji' : i ≤ j' := Classical.byContradiction (fun z => by
      have hlt : j' < i := by omega
      exact (e3' j' i hlt hi').irr (fun k hk => by rw [← ih j' hlt k hk, ej' k hk]))
    by_cases ee : j = i
    · intro k hk
      rw [← ej k hk, ee]
    · exfalso
      have b1 := e3' i j (by omega) hj
      by_cases ee' : j' = i
      · rw [ee'] at ej'
        exact b1.irr (fun k hk => by rw [ej k hk, ← ej' k hk])
      · have b2 := e3 i j' (by omega) hj'
        have b3 : z_bef (2 * c) (fun k => (E.2 i k).toInt) (fun k => (E'.2 i k).toInt) := b2.congr (fun _ _ => rfl) ej'
        have b4 : z_bef (2 * c) (fun k => (E'.2 i k).toInt) (fun k => (E.2 i k).toInt) := b1.congr (fun _ _ => rfl) ej
        exact b3.asym b4
  have all : ∀ N i, i < N → i < E.1 → i < E'.1 → ∀ k, k < 2 * c → (E.2 i k).toInt = (E'.2 i k).toInt := by
    intro N
    induction N with
    | zero => intro i hi; omega
    | succ N ih => exact fun i hi h1 h2 => key i h1 h2 (fun j hj => ih j (by omega) (by omega) (by omega))
  have hs : E.1 = E'.1 := by
    rcases (show E.1 < E'.1 ∨ E.1 = E'.1 ∨ E'.1 < E.1 by omega) with h | h | h
    · exfalso
      obtain ⟨j, hj, ej⟩ := e2 _ (e1' E.1 h).1
      exact (e3' j E.1 hj h).irr (fun k hk => by rw [← all (j + 1) j (by omega) hj (by omega) k hk, ej k hk])
    · exact h
    · exfalso
      obtain ⟨j, hj, ej⟩ := e2' _ (e1 E'.1 h).1
      exact (e3 j E'.1 hj h).irr (fun k hk => by rw [all (j + 1) j (by omega) (by omega) hj k hk, ej k hk])
  refine ⟨hs, fun i hi k => ?_⟩
  by_cases h6 : 6 ≤ k
  · exact Or.inr h6
  · left
    by_cases hk : k < 2 * c
    · exact Int64.toInt_inj.1 (all (i + 1) i (by omega) hi (by omega) k hk)
    · rw [(e1 i hi).2 k (by omega), (e1' i (by omega)).2 k (by omega)]

