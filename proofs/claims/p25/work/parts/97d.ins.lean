section ins
variable {h : AH} {A : QA}
def zQ (c : Nat) (g : Nat → Nat → Int32) (N : Nat) (E : Nat → Nat → Int64) : Prop := (∀ i, i < N → z_ext (2 * c) (2 * c + q_nq c) (z_row c g) (fun k => (E i k).toInt) ∧ ∀ k, 2 * c ≤ k → E i k = 0) ∧ ∀ i j, i < j → j < N → zB c E i j
theorem zQ.few {c N : Nat} {g : Nat → Nat → Int32} {E : Nat → Nat → Int64} (h3 : c = 2 ∨ c = 3) (Q : zQ c g N E) : N ≤ 128 := z_few (z_row_unit (t := q_nq c) (g := g)) (by omega) (z_row_in h3 (Nat.le_refl _)) (L := fun i k => (E i k).toInt) (fun i hi => (Q.1 i hi).1) (fun i j hij hj => Classical.byContradiction (fun hn => (Q.2 i j hij hj).irr (fun k hk => Classical.byContradiction (fun z => hn ⟨k, hk, z⟩))))
theorem zE.sum {c : Nat} {g : Nat → Nat → Int32} (h3 : c = 2 ∨ c = 3) (hg : z_rng g) {e : Nat → Int64} (hx : z_ext (2 * c) (2 * c + q_nq c) (z_row c g) (fun k => (e k).toInt)) (h0 : ∀ k, 2 * c ≤ k → e k = 0) : (j_sum 6 e).toInt = z_sum (2 * c) (fun k => (e k).toInt) ∧ (j_sum (2 * c) e) = j_sum 6 e ∧ 0 < (j_sum 6 e).toInt ∧ (j_sum 6 e).toInt ≤ 816293376 := by
  have h6 : 2 * c ≤ 6 := by rcases h3 with e | e <;> omega
  have bd : ∀ k, k < 6 → 0 ≤ (e k).toInt ∧ (e k).toInt ≤ 136048896 := fun k hk => by
    by_cases hk2 : k < 2 * c
    · exact z_small h3 hg (Nat.le_refl _) hx k hk2
    · rw [h0 k (by omega)]; decide
  obtain ⟨j1, j2, j3⟩ := j_sum_int (B := 136048896) (f := e) (by omega) 6 (by omega) (fun k hk => by have := bd k hk; omega)
  have e1 : (j_sum 6 e).toInt = z_sum (2 * c) (fun k => (e k).toInt) := by
    rw [j1]
    obtain ⟨r, hr⟩ : ∃ r, 6 = 2 * c + r := ⟨6 - 2 * c, by omega⟩
    rw [hr, z_sum_split, z_sum_congr (n := r) (g := fun _ => 0) (fun k hk => by
      rw [h0 (2 * c + k) (by omega)]
      rfl), z_sum_0, Int.add_zero]
  obtain ⟨i1, i2, i3⟩ := j_sum_int (B := 136048896) (f := e) (by omega) (2 * c) (by omega) (fun k hk => by have := bd k (by omega); omega)
  refine ⟨e1, Int64.toInt_inj.1 (by rw [i1, e1]), ?_, by omega⟩
  rw [e1]
  exact hx.sum z_row_unit
end ins
