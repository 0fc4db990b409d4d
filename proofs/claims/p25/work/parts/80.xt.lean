/-! ===== the class's Extremes: where it lies, what it reads ===== -/
/-- b: which of the two pairs of rows is the one that counts -/
def xL (h : AH) (b : Nat) : Prop := b ≤ 1 ∧ am_kd h 6 = 0 ∧ am_R h 6 2 = some (7 + b) ∧ am_R h 6 3 = some (8 - b) ∧ am_R h 6 4 = some (9 + b) ∧ am_R h 6 5 = some (10 - b) ∧ am_R h 6 6 = some 11 ∧ am_R h 6 7 = some 12 ∧ am_R h 6 8 = some 13 ∧ am_R h 6 10 = some 14 ∧ (∀ a, a = 7 ∨ a = 8 → am_kd h a = 6 ∧ am_ln h a = 768) ∧ (∀ a, a = 9 ∨ a = 10 → am_kd h a = 5 ∧ am_ln h a = 128) ∧ (∀ a, a = 11 ∨ a = 12 → am_kd h a = 6 ∧ am_ln h a = 128) ∧ (am_kd h 13 = 5 ∧ am_ln h 13 = 6) ∧ am_kd h 14 = 5 ∧ am_ln h 14 = 12
section xt
variable {h : AH} {b : Nat}
theorem xL.k (m : xL h b) : am_kd h 6 = 0 := m.2.1
theorem xL.w (m : xL h b) : am_R h 6 2 = some (7 + b) := m.2.2.1
theorem xL.nw (m : xL h b) : am_R h 6 3 = some (8 - b) := m.2.2.2.1
theorem xL.t (m : xL h b) : am_R h 6 4 = some (9 + b) := m.2.2.2.2.1
theorem xL.nt (m : xL h b) : am_R h 6 5 = some (10 - b) := m.2.2.2.2.2.1
theorem xL.sl (m : xL h b) : am_R h 6 6 = some 11 := m.2.2.2.2.2.2.1
theorem xL.su (m : xL h b) : am_R h 6 7 = some 12 := m.2.2.2.2.2.2.2.1
theorem xL.lo (m : xL h b) : am_R h 6 8 = some 13 := m.2.2.2.2.2.2.2.2.1
theorem xL.og (m : xL h b) : am_R h 6 10 = some 14 := m.2.2.2.2.2.2.2.2.2.1
theorem xL.kw (m : xL h b) : am_kd h (7 + b) = 6 := (m.2.2.2.2.2.2.2.2.2.2.1 _ (by have := m.1; omega)).1
theorem xL.lw (m : xL h b) : am_ln h (7 + b) = 768 := (m.2.2.2.2.2.2.2.2.2.2.1 _ (by have := m.1; omega)).2
theorem xL.knw (m : xL h b) : am_kd h (8 - b) = 6 := (m.2.2.2.2.2.2.2.2.2.2.1 _ (by have := m.1; omega)).1
theorem xL.lnw (m : xL h b) : am_ln h (8 - b) = 768 := (m.2.2.2.2.2.2.2.2.2.2.1 _ (by have := m.1; omega)).2
theorem xL.kt (m : xL h b) : am_kd h (9 + b) = 5 := (m.2.2.2.2.2.2.2.2.2.2.2.1 _ (by have := m.1; omega)).1
theorem xL.lt (m : xL h b) : am_ln h (9 + b) = 128 := (m.2.2.2.2.2.2.2.2.2.2.2.1 _ (by have := m.1; omega)).2
theorem xL.knt (m : xL h b) : am_kd h (10 - b) = 5 := (m.2.2.2.2.2.2.2.2.2.2.2.1 _ (by have := m.1; omega)).1
theorem xL.lnt (m : xL h b) : am_ln h (10 - b) = 128 := (m.2.2.2.2.2.2.2.2.2.2.2.1 _ (by have := m.1; omega)).2
theorem xL.k11 (m : xL h b) : am_kd h 11 = 6 := (m.2.2.2.2.2.2.2.2.2.2.2.2.1 _ (Or.inl rfl)).1
theorem xL.l11 (m : xL h b) : am_ln h 11 = 128 := (m.2.2.2.2.2.2.2.2.2.2.2.2.1 _ (Or.inl rfl)).2
theorem xL.k12 (m : xL h b) : am_kd h 12 = 6 := (m.2.2.2.2.2.2.2.2.2.2.2.2.1 _ (Or.inr rfl)).1
theorem xL.l12 (m : xL h b) : am_ln h 12 = 128 := (m.2.2.2.2.2.2.2.2.2.2.2.2.1 _ (Or.inr rfl)).2
theorem xL.k13 (m : xL h b) : am_kd h 13 = 5 := m.2.2.2.2.2.2.2.2.2.2.2.2.2.1.1
theorem xL.l13 (m : xL h b) : am_ln h 13 = 6 := m.2.2.2.2.2.2.2.2.2.2.2.2.2.1.2
theorem xL.k14 (m : xL h b) : am_kd h 14 = 5 := m.2.2.2.2.2.2.2.2.2.2.2.2.2.2.1
theorem xL.l14 (m : xL h b) : am_ln h 14 = 12 := m.2.2.2.2.2.2.2.2.2.2.2.2.2.2.2
/-- what the Extremes' own runs leave: their own rows apart, all -/
def xF (h h1 : AH) : Prop := h1.1 = h.1 ∧ ∀ a, ¬ (6 ≤ a ∧ a < 15) → am_I h1 a = am_I h a ∧ am_J h1 a = am_J h a ∧ am_R h1 a = am_R h a
theorem xF.rf : xF h h := ⟨rfl, fun _ _ => ⟨rfl, rfl, rfl⟩⟩
theorem xF.tr {h1 h2 : AH} (a : xF h h1) (c : xF h1 h2) : xF h h2 := ⟨c.1.trans a.1, fun x hx => ⟨(c.2 x hx).1.trans (a.2 x hx).1, (c.2 x hx).2.1.trans (a.2 x hx).2.1, (c.2 x hx).2.2.trans (a.2 x hx).2.2⟩⟩
theorem xF.kd {h1 : AH} (a : xF h h1) (x : Nat) : am_kd h1 x = am_kd h x ∧ am_ln h1 x = am_ln h x := by unfold am_kd am_ln; rw [a.1]; exact ⟨rfl, rfl⟩
theorem xF.of {h1 : AH} {P : Nat → Prop} (f : am_fr h h1 P) (hp : ∀ a, P a → 6 ≤ a ∧ a < 15) : xF h h1 := ⟨f.1, fun a ha => ⟨f.2.2.1 a (fun z => ha (hp a z)), f.2.2.2 a (fun z => ha (hp a z)), by rw [f.2.1]⟩⟩
theorem xF.sV {h1 : AH} {s : QS} (f : xF h h1) (v : sV h 2 s) : sV h1 2 s := v.cp (fun j hj => ⟨(f.kd _).1, (f.kd _).2, (f.2 _ (by omega)).1⟩) (f.2 2 (by omega)).2.2
theorem xL.fr {h1 : AH} {P : Nat → Prop} (m : xL h b) (f : am_fr h h1 P) : xL h1 b := by
  unfold xL
  simp only [f.kd, f.ln, f.2.1]
  exact m
/-- the list that counts -/
def xC (h : AH) (b N : Nat) (E : Nat → Nat → Int64) (τ : Nat → Nat) : Prop := xL h b ∧ am_I h 6 0 = nI N ∧ N ≤ 128 ∧ (∀ i, i < N → ∀ k, k < 6 → am_J h (7 + b) (6 * i + k) = E i k) ∧ ∀ i, i < N → am_I h (9 + b) i = nI (τ i)
/-- the list that is being laid -/
def xN (h : AH) (b N : Nat) (E : Nat → Nat → Int64) (τ : Nat → Nat) : Prop := am_I h 6 1 = nI N ∧ N ≤ 128 ∧ (∀ i, i < N → ∀ k, k < 6 → am_J h (8 - b) (6 * i + k) = E i k) ∧ ∀ i, i < N → am_I h (10 - b) i = nI (τ i)
theorem x_len {n : Nat} (hn : n < 2147483648) {k : Nat} (hk : k < 2147483648) : (nI k < Int32.ofNat n) = (k < n) := by rw [x_ofNat]; exact x_lt hk hn
theorem x_has {N : Nat} {x : Int32} (m : xL h b) (e : am_I h 6 0 = nI N) (hN : N ≤ 128) : am_ev 2 0 [.ref 6, .int x] [] h = some (some (.int (if 0 ≤ x.toInt ∧ x.toInt < N then 1 else 0)), h) := by
  rw [am_b2_0, if_pos m.k, e]
  simp only [Int32.lt_iff_toInt_lt, show (0 : Int32).toInt = 0 from rfl, nI_toInt (show N < 2147483648 by omega)]
  by_cases h1 : x.toInt < 0
  · rw [if_pos h1, if_neg (by omega)]
  · rw [if_neg h1]
    by_cases h2 : x.toInt < N
    · rw [if_pos h2, if_pos (by omega)]
    · rw [if_neg h2, if_neg (by omega)]
theorem x_weight {N i k : Nat} {E : Nat → Nat → Int64} {τ : Nat → Nat} (X : xC h b N E τ) (hi : i < N) (hk : k < 6) : am_ev 3 0 [.ref 6, .int (nI i), .int (nI k), am_ph] [] h = some (some (.long (E i k)), h) := by
  obtain ⟨m, x1, x2, x3, x4⟩ := X
  rw [am_b3_0, if_neg (nI_pos (by omega)), if_pos m.k, x1, if_pos (by rw [x_lt (by omega) (by omega)]; exact hi), if_neg (nI_pos (by omega)), x_c6, if_pos (by rw [x_lt (by omega) (by omega)]; exact hk), if_pos m.k, m.w, x_oe, if_pos (by rw [m.kw]; omega), pk_mul, nI_add, m.lw, if_pos (by rw [x_len (by omega) (by omega)]; omega), if_pos m.k, x_oe, x_cl (by omega), if_pos ⟨m.kw, fun z => z.elim (nI_pos (by omega)) (by rw [m.lw]; omega)⟩, Nat.mul_comm i 6, x3 i hi k hk]
theorem x_sumAt {i : Nat} (m : xL h b) (hi : i < 128) : am_ev 4 0 [.ref 6, .int (nI i)] [] h = some (some (.long (am_J h 12 i)), h) := by
  rw [am_b4_0, if_neg (nI_pos (by omega)), if_pos m.k, m.su, x_oe, if_pos (by rw [m.k12]; omega), m.l12, if_pos (by rw [x_len (by omega) (by omega)]; omega), if_pos m.k, x_oe, x_cl (by omega), if_pos ⟨m.k12, fun z => z.elim (nI_pos (by omega)) (by rw [m.l12]; omega)⟩]
theorem x_slackAt {i : Nat} (m : xL h b) (hi : i < 128) : am_ev 11 0 [.ref 6, .int (nI i)] [] h = some (some (.long (am_J h 11 i)), h) := by
  rw [am_b11_0, if_neg (nI_pos (by omega)), if_pos m.k, m.sl, x_oe, if_pos (by rw [m.k11]; omega), m.l11, if_pos (by rw [x_len (by omega) (by omega)]; omega), if_pos m.k, x_oe, x_cl (by omega), if_pos ⟨m.k11, fun z => z.elim (nI_pos (by omega)) (by rw [m.l11]; omega)⟩]
theorem x_tightAt {N i : Nat} {E : Nat → Nat → Int64} {τ : Nat → Nat} (X : xC h b N E τ) (hi : i < N) : am_ev 10 0 [.ref 6, .int (nI i)] [] h = some (some (.int (nI (τ i))), h) := by
  obtain ⟨m, x1, x2, x3, x4⟩ := X
  rw [am_b10_0, if_neg (nI_pos (by omega)), if_pos m.k, m.t, x_oe, if_pos (by rw [m.kt]; omega), m.lt, if_pos (by rw [x_len (by omega) (by omega)]; omega), if_pos m.k, x_oe, x_cl (by omega), if_pos ⟨Or.inl m.kt, fun z => z.elim (nI_pos (by omega)) (by rw [m.lt]; omega)⟩, x4 i hi]
end xt
