/-! ===== the class's Extremes: common divisors, slacks, neighbours, what lies between ===== -/
def z_fib : Nat → Nat × Nat
  | 0 => (1, 2)
  | n + 1 => ((z_fib n).2, (z_fib n).1 + (z_fib n).2)
theorem z_fib_s (n : Nat) : (z_fib (n + 1)).1 = (z_fib n).2 ∧ (z_fib (n + 1)).2 = (z_fib n).1 + (z_fib n).2 := ⟨rfl, rfl⟩
theorem z_fib_100 : 9223372036854775808 ≤ (z_fib 100).1 := by decide +kernel
theorem z_gcd_s (d : Nat) (v : Nat → Int) : z_gcd (d + 1) v = Nat.gcd (z_gcd d v) (v d).natAbs := rfl
section xt3
variable {h : AH} {b : Nat}
theorem x_euclid : ∀ (k : Nat), (∀ (j x y : Nat) (a c : Int64), a.toInt = x → c.toInt = y → y < (z_fib k).1 → j + k ≤ 100 → ∃ g : Int64, am_ev 28 17 [am_ph, am_ph, am_ph, am_ph, .long a, am_ph, .long c, am_ph, .int (nI j), am_ph, am_ph] [] h = some (some (.long g), h) ∧ g.toInt = Nat.gcd x y) ∧ (∀ (j x y : Nat) (a c : Int64), a.toInt = x → c.toInt = y → y < (z_fib k).2 → j + (k + 1) ≤ 100 → ∃ g : Int64, am_ev 28 17 [am_ph, am_ph, am_ph, am_ph, .long a, am_ph, .long c, am_ph, .int (nI j), am_ph, am_ph] [] h = some (some (.long g), h) ∧ g.toInt = Nat.gcd x y) := by
  -- done where nothing is left
  have hz : ∀ (j x : Nat) (a c : Int64), a.toInt = x → c.toInt = (0 : Nat) → j ≤ 100 → ∃ g : Int64, am_ev 28 17 [am_ph, am_ph, am_ph, am_ph, .long a, am_ph, .long c, am_ph, .int (nI j), am_ph, am_ph] [] h = some (some (.long g), h) ∧ g.toInt = Nat.gcd x 0 := by
    intro j x a c ha hc hj
    refine ⟨a, ?_, by rw [Nat.gcd_zero_right]; exact ha⟩
    rw [am_b28_17]
    simp only [lg_cmp_gt, y_lt]
    rw [if_neg (show ¬ (0 : Int64).toInt < c.toInt by rw [hc]; decide)]
    split <;> rfl
  -- a step
  have hs : ∀ (j x y : Nat) (a c : Int64), a.toInt = x → c.toInt = y → 0 < y → j < 100 → am_ev 28 17 [am_ph, am_ph, am_ph, am_ph, .long a, am_ph, .long c, am_ph, .int (nI j), am_ph, am_ph] [] h = am_ev 28 17 [am_ph, am_ph, am_ph, am_ph, .long c, am_ph, .long (a - a / c * c), am_ph, .int (nI (j + 1)), am_ph, am_ph] [] h ∧ (a - a / c * c).toInt = ((x % y : Nat) : Int) := by
    intro j x y a c ha hc hy hj
    have hc0 : 0 < c.toInt := by omega
    refine ⟨?_, ?_⟩
    · have hne : ¬ c = 0 := fun z => by rw [z] at hc0; exact absurd hc0 (by decide)
      rw [am_b28_17]
      simp only [lg_cmp_gt, y_lt]
      rw [if_pos (show nI j < 100 by rw [x_c100, x_lt (by omega) (by omega)]; exact hj), if_pos (show (0 : Int64).toInt < c.toInt from hc0), if_neg hne, nI_1]
    · rw [y_rem hc0, ha, hc]
      rfl
  intro k
  induction k with
  | zero =>
    refine ⟨fun j x y a c ha hc hy hj => ?_, fun j x y a c ha hc hy hj => ?_⟩
    · have : y = 0 := by have : y < 1 := hy; omega
      subst this
      exact hz j x a c ha hc (by omega)
    · have hy2 : y < 2 := hy
      rcases (show y = 0 ∨ y = 1 by omega) with e | e
      · subst e
        exact hz j x a c ha hc (by omega)
      · subst e
        obtain ⟨s1, s2⟩ := hs j x 1 a c ha hc (by omega) (by omega)
        obtain ⟨g, e1, e2⟩ := hz (j + 1) 1 c _ hc (by rw [s2, Nat.mod_one]) (by omega)
        refine ⟨g, s1.trans e1, ?_⟩
        rw [e2, Nat.gcd_zero_right, Nat.gcd_one_right]
  | succ k ih =>
    refine ⟨fun j x y a c ha hc hy hj => ih.2 j x y a c ha hc hy (by omega), fun j x y a c ha hc hy hj => ?_⟩
    rcases Nat.eq_zero_or_pos y with e | e
    · subst e
      exact hz j x a c ha hc (by omega)
    · obtain ⟨s1, s2⟩ := hs j x y a c ha hc e (by omega)
      have hy' : y < (z_fib k).1 + (z_fib k).2 := hy
      have hr : x % y < y := Nat.mod_lt _ e
      have hg : Nat.gcd x y = Nat.gcd y (x % y) := by rw [Nat.gcd_comm x y, Nat.gcd_rec y x, Nat.gcd_comm]
      by_cases h1 : x % y < (z_fib k).2
      · obtain ⟨g, e1, e2⟩ := ih.2 (j + 1) y (x % y) c _ hc s2 h1 (by omega)
        exact ⟨g, s1.trans e1, by rw [e2, hg]⟩
      · obtain ⟨f1, f2⟩ : 1 ≤ (z_fib k).1 ∧ 1 ≤ (z_fib k).2 := by
          clear hy hy' h1 ih hj
          induction k with
          | zero => decide
          | succ k ih => exact ⟨ih.2, by rw [(z_fib_s k).2]; omega⟩
        obtain ⟨t1, t2⟩ := hs (j + 1) y (x % y) c _ hc s2 (by omega) (by omega)
        have h2 : y % (x % y) < (z_fib k).1 := by
          have h3 : y % (x % y) ≤ y - x % y := by
            have := Nat.div_add_mod y (x % y)
            have h4 : 1 ≤ y / (x % y) := Nat.div_pos (by omega) (by omega)
            have h5 : x % y * 1 ≤ x % y * (y / (x % y)) := Nat.mul_le_mul_left _ h4
            omega
          omega
        obtain ⟨g, e1, e2⟩ := ih.1 (j + 1 + 1) (x % y) (y % (x % y)) _ _ s2 t2 h2 (by omega)
        refine ⟨g, s1.trans (t1.trans e1), ?_⟩
        rw [e2, hg, Nat.gcd_comm y, Nat.gcd_rec (x % y) y, Nat.gcd_comm]
theorem x_gcd {a c : Int64} {x y : Nat} (ha : a.toInt = x) (hc : c.toInt = y) : ∃ g : Int64, am_ev 28 0 [.long a, am_ph, .long c, am_ph, am_ph, am_ph, am_ph, am_ph, am_ph, am_ph, am_ph] [] h = some (some (.long g), h) ∧ g.toInt = Nat.gcd x y := by
  have hf := z_fib_100
  have hx := y_rng a
  have hy := y_rng c
  simp only [am_b28_0, am_b163_0, am_b164_0, lg_cmp_lt, lg_cmp_gt, y_lt, ha, hc]
  by_cases h1 : (x : Int) < y
  · rw [if_pos h1, x_bJ, if_neg (by omega), x_bJ]
    obtain ⟨g, e1, e2⟩ := (x_euclid (h := h) 100).1 0 y x c a hc ha (by omega) (by omega)
    rw [nI_0] at e1
    exact ⟨g, e1, by rw [e2, Nat.gcd_comm]⟩
  · rw [if_neg h1, x_bJ]
    by_cases h2 : (y : Int) < x
    · rw [if_pos h2, x_bJ]
      obtain ⟨g, e1, e2⟩ := (x_euclid (h := h) 100).1 0 x y a c ha hc (by omega) (by omega)
      rw [nI_0] at e1
      exact ⟨g, e1, e2⟩
    · rw [if_neg h2, x_bJ]
      have exy : x = y := by omega
      obtain ⟨g, e1, e2⟩ := (x_euclid (h := h) 100).1 0 x x a a ha ha (by omega) (by omega)
      rw [nI_0] at e1
      exact ⟨g, e1, by rw [e2, exy]⟩
theorem x_mixed {N i j k : Nat} {E : Nat → Nat → Int64} {τ : Nat → Nat} (X : xC h b N E τ) (hi : i < N) (hj : j < N) (hk : k < 6) : am_ev 19 0 [.ref 6, .int (nI i), .int (nI j), .int (nI k)] [] h = some (some (.long (am_J h 11 i * E j k - am_J h 11 j * E i k)), h) := by
  have m := X.1
  have hN := X.2.2.1
  rw [am_b19_0, if_pos m.k, x_slackAt m (by omega), x_bJ, if_pos m.k, x_weight X hj hk, x_bJ, if_pos m.k, x_slackAt m (by omega), x_bJ, if_pos m.k, x_weight X hi hk, x_bJ]
/-- the vector between two -/
theorem x_between {N n i j w : Nat} {E E' : Nat → Nat → Int64} {τ τ' : Nat → Nat} {V : Nat → Nat} (X : xC h b N E τ) (Y : xN h b n E' τ') (hi : i < N) (hj : j < N) (hn : n < 128) (hV : ∀ k, k < 6 → (am_J h 11 i * E j k - am_J h 11 j * E i k).toInt = V k) (hp : ∃ k, k < 6 ∧ V k ≠ 0) : ∃ F : Nat → Int64, am_ev 18 0 [.ref 6, .int (nI i), .int (nI j), .int (nI w), am_ph, am_ph, am_ph, am_ph, am_ph, am_ph] [] h = some (none, xp h b n F (nI (τ i) &&& nI (τ j) ||| nI w)) ∧ ∀ k, k < 6 → (F k).toInt = ((V k / z_gcd 6 (fun k => (V k : Int)) : Nat) : Int) := by
  have m := X.1
  have hb := m.1
  have key1 : ∀ d q, q + d = 6 → ∀ g : Int64, g.toInt = z_gcd q (fun k => (V k : Int)) → ∃ g' : Int64, g'.toInt = z_gcd 6 (fun k => (V k : Int)) ∧ am_ev 18 12 [.ref 6, .int (nI i), .int (nI j), .int (nI w), .int (nI (6 * n)), .long g, am_ph, .int (nI q), am_ph, am_ph] [] h = am_ev 18 47 [.ref 6, .int (nI i), .int (nI j), .int (nI w), .int (nI (6 * n)), .long g', am_ph, .int (0 : Int32), am_ph, am_ph] [] h := by
    intro d
    induction d with
    | zero =>
      intro q hq g hg
      obtain rfl : q = 6 := by omega
      refine ⟨g, hg, ?_⟩
      rw [am_b18_12, x_c6, if_neg (by rw [x_lt (by omega) (by omega)]; omega)]
    | succ d ih =>
      intro q hq g hg
      obtain ⟨g1, e1, e2⟩ := x_gcd (h := h) (hV q (by omega)) hg
      obtain ⟨g', e3, e4⟩ := ih (q + 1) (by omega) g1 (by
        rw [e2, z_gcd_s, Nat.gcd_comm]
        rfl)
      refine ⟨g', e3, ?_⟩
      rw [am_b18_12, x_c6, if_pos (by rw [x_lt (by omega) (by omega)]; omega), if_pos m.k, x_mixed X hi hj (by omega), x_bJ, e1, x_bJ, nI_1]
      exact e4
  obtain ⟨g, hg, e0⟩ := key1 6 0 (by omega) (0 : Int64) rfl
  have hg1 : 0 < z_gcd 6 (fun k => (V k : Int)) := by
    rcases Nat.eq_zero_or_pos (z_gcd 6 (fun k => (V k : Int))) with h | h
    · obtain ⟨k, hk, hn⟩ := hp
      have := z_gcd_0 h k hk
      omega
    · exact h
  generalize hG : z_gcd 6 (fun k => (V k : Int)) = G at hg hg1
  have hF : ∀ k, k < 6 → (if 0 < lg_cmp g (1 : Int64) then (am_J h 11 i * E j k - am_J h 11 j * E i k) / g else (am_J h 11 i * E j k - am_J h 11 j * E i k)).toInt = ((V k / G : Nat) : Int) := by
    intro k hk
    by_cases h1 : 0 < lg_cmp g (1 : Int64)
    · rw [if_pos h1, y_div (by omega), hV k hk, hg]
      rfl
    · rw [if_neg h1, hV k hk]
      simp only [lg_cmp_gt, y_lt, hg] at h1
      have : ¬ (1 : Int) < G := h1
      rw [show G = 1 by omega, Nat.div_one]
  generalize hFd : (fun k => if 0 < lg_cmp g (1 : Int64) then (am_J h 11 i * E j k - am_J h 11 j * E i k) / g else (am_J h 11 i * E j k - am_J h 11 j * E i k)) = F at hF
  have hF' : ∀ k, (if 0 < lg_cmp g (1 : Int64) then (am_J h 11 i * E j k - am_J h 11 j * E i k) / g else (am_J h 11 i * E j k - am_J h 11 j * E i k)) = F k := fun k => by rw [← hFd]
  refine ⟨F, ?_, fun k hk => by rw [← hF' k]; exact hF k hk⟩
  have key2 : ∀ d q, q + d = 6 → am_ev 18 47 [.ref 6, .int (nI i), .int (nI j), .int (nI w), .int (nI (6 * n)), .long g, am_ph, .int (nI q), am_ph, am_ph] [] (am_fj h (8 - b) (6 * n) q F) = some (none, xp h b n F (nI (τ i) &&& nI (τ j) ||| nI w)) := by
    intro d
    induction d with
    | zero =>
      intro q hq
      have f : am_fr h (am_fj h (8 - b) (6 * n) q F) (xQ b) := am_fr_fj (Or.inl rfl)
      have X2 := X.fr f rfl
      rw [am_b18_47, x_c6, if_neg (by rw [x_lt (by omega) (by omega)]; omega), if_pos X2.1.k, x_tightAt X2 hi, x_bI, if_pos X2.1.k, x_tightAt X2 hj, x_bI, if_pos X2.1.k, x_finish X2.1 hn (show am_I (am_fj h (8 - b) (6 * n) q F) 6 1 = nI n from Y.1), x_bV, show q = 6 by omega]
      rfl
    | succ d ih =>
      intro q hq
      have f : am_fr h (am_fj h (8 - b) (6 * n) q F) (xQ b) := am_fr_fj (Or.inl rfl)
      have X2 := X.fr f rfl
      have e11 : am_J (am_fj h (8 - b) (6 * n) q F) 11 = am_J h 11 := am_fj_ne (by omega)
      have i' := ih (q + 1) (by omega)
      rw [← am_fj_s, ← hF' q] at i'
      rw [am_b18_47, x_c6, if_pos (by rw [x_lt (by omega) (by omega)]; omega), if_pos X2.1.k, x_mixed X2 hi hj (by omega), x_bJ, e11, nI_1]
      by_cases h1 : 0 < lg_cmp g (1 : Int64)
      · have hne : ¬ g = 0 := fun z => by rw [z] at hg; exact absurd hg (by show ¬ (0 : Int) = G; omega)
        rw [if_pos h1] at i'
        rw [if_pos h1, if_neg hne, if_pos X2.1.k, nI_add, x_setNext X2.1 (by omega), x_bV]
        exact i'
      · rw [if_neg h1] at i'
        rw [if_neg h1, if_pos X2.1.k, nI_add, x_setNext X2.1 (by omega), x_bV]
        exact i'
  have k0 := key2 6 0 (by omega)
  rw [am_fj_0] at k0
  rw [am_b18_0, if_pos m.k, x_start m Y.1, x_bI]
  exact e0.trans k0
/-- the neighbours' test -/
theorem x_neigh {N i j : Nat} {E : Nat → Nat → Int64} {τ : Nat → Nat} (X : xC h b N E τ) (hi : i < N) (hj : j < N) : ∃ v : Int32, am_ev 16 0 [.ref 6, .int (nI i), .int (nI j), am_ph, am_ph] [] h = some (some (.int v), h) ∧ (v = 0 ∧ (∃ t, t < N ∧ t ≠ i ∧ t ≠ j ∧ nI (τ t) &&& (nI (τ i) &&& nI (τ j)) = nI (τ i) &&& nI (τ j)) ∨ v = 1 ∧ ∀ t, t < N → t ≠ i → t ≠ j → ¬ nI (τ t) &&& (nI (τ i) &&& nI (τ j)) = nI (τ i) &&& nI (τ j)) := by
  have m := X.1
  have hN := X.2.2.1
  have key : ∀ d q, q + d = N → (∀ t, t < q → t ≠ i → t ≠ j → ¬ nI (τ t) &&& (nI (τ i) &&& nI (τ j)) = nI (τ i) &&& nI (τ j)) → ∃ v : Int32, am_ev 16 15 [.ref 6, .int (nI i), .int (nI j), .int (nI (τ i) &&& nI (τ j)), .int (nI q)] [] h = some (some (.int v), h) ∧ (v = 0 ∧ (∃ t, t < N ∧ t ≠ i ∧ t ≠ j ∧ nI (τ t) &&& (nI (τ i) &&& nI (τ j)) = nI (τ i) &&& nI (τ j)) ∨ v = 1 ∧ ∀ t, t < N → t ≠ i → t ≠ j → ¬ nI (τ t) &&& (nI (τ i) &&& nI (τ j)) = nI (τ i) &&& nI (τ j)) := by
    intro d
    induction d with
    | zero =>
      intro q hq hall
      refine ⟨1, ?_, Or.inr ⟨rfl, fun t ht => hall t (by omega)⟩⟩
      rw [am_b16_15, if_pos m.k, X.2.1, if_neg (by rw [x_lt (by omega) (by omega)]; omega)]
    | succ d ih =>
      intro q hq hall
      rw [am_b16_15, if_pos m.k, X.2.1, if_pos (by rw [x_lt (by omega) (by omega)]; omega), nI_1]
      have hqi : (nI q = nI i) = (q = i) := propext (nI_eq (by omega) (by omega))
      have hqj : (nI q = nI j) = (q = j) := propext (nI_eq (by omega) (by omega))
      simp only [hqi, hqj]
      by_cases h1 : q = i
      · rw [if_pos h1]
        exact ih (q + 1) (by omega) (fun t ht h2 h3 => hall t (by omega) h2 h3)
      · rw [if_neg h1]
        by_cases h2 : q = j
        · rw [if_pos h2]
          exact ih (q + 1) (by omega) (fun t ht h2 h3 => hall t (by omega) h2 h3)
        · rw [if_neg h2, if_pos m.k, x_tightAt X (by omega), x_bI]
          by_cases h3 : nI (τ q) &&& (nI (τ i) &&& nI (τ j)) = nI (τ i) &&& nI (τ j)
          · rw [if_pos h3]
            exact ⟨0, rfl, Or.inl ⟨rfl, q, by omega, h1, h2, h3⟩⟩
          · rw [if_neg h3]
            refine ih (q + 1) (by omega) (fun t ht h4 h5 => ?_)
            by_cases e : t = q
            · rw [e]; exact h3
            · exact hall t (by omega) h4 h5
  obtain ⟨v, e, hv⟩ := key N 0 (by omega) (fun t ht => by omega)
  rw [nI_0] at e
  rw [am_b16_0, if_pos m.k, x_tightAt X hi, x_bI, if_pos m.k, x_tightAt X hj, x_bI]
  exact ⟨v, e, hv⟩
end xt3
