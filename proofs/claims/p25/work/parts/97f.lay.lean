def vL (m : Nat) (p q : Nat → Nat) : Prop := ∃ i, i < m ∧ (∀ j, j < i → p j = q j) ∧ p i < q i
theorem vL.tri (m : Nat) (p q : Nat → Nat) : (∀ r, r < m → p r = q r) ∨ vL m p q ∨ vL m q p := by
  by_cases h : ∃ r, r < m ∧ p r ≠ q r
  · obtain ⟨r, h1, h2, h3⟩ := z_first m h
    have h4 : ∀ j, j < r → p j = q j := fun j hj => Classical.byContradiction (fun z => h3 j hj z)
    rcases (show p r < q r ∨ q r < p r by omega) with e | e
    · exact Or.inr (Or.inl ⟨r, h1, h4, e⟩)
    · exact Or.inr (Or.inr ⟨r, h1, fun j hj => (h4 j hj).symm, e⟩)
  · exact Or.inl (fun r hr => Classical.byContradiction (fun z => h ⟨r, hr, z⟩))
section lay
variable {h : AH} {A : QA}
end lay
