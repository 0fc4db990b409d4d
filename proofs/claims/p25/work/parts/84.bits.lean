/-! ===== sets of bits; lists of extreme vectors with their sets ===== -/
theorem x_and (a b : Nat) : nI a &&& nI b = nI (a &&& b) := by
  have : UInt32.ofNat a &&& UInt32.ofNat b = UInt32.ofNat (a &&& b) := by
    rw [← UInt32.toNat_inj, UInt32.toNat_and, UInt32.toNat_ofNat', UInt32.toNat_ofNat', UInt32.toNat_ofNat']
    rw [Nat.and_mod_two_pow]
  show (UInt32.ofNat a &&& UInt32.ofNat b).toInt32 = (UInt32.ofNat (a &&& b)).toInt32
  rw [this]
theorem x_or (a b : Nat) : nI a ||| nI b = nI (a ||| b) := by
  have : UInt32.ofNat a ||| UInt32.ofNat b = UInt32.ofNat (a ||| b) := by
    rw [← UInt32.toNat_inj, UInt32.toNat_or, UInt32.toNat_ofNat', UInt32.toNat_ofNat', UInt32.toNat_ofNat']
    rw [Nat.or_mod_two_pow]
  show (UInt32.ofNat a ||| UInt32.ofNat b).toInt32 = (UInt32.ofNat (a ||| b)).toInt32
  rw [this]
theorem x_sub_set {a b : Nat} (ha : a < 2 ^ 14) (hb : b < 2 ^ 14) : (nI a &&& nI b = nI b) = ∀ r, b.testBit r = true → a.testBit r = true := by
  rw [x_and]
  have h1 : a &&& b < 2 ^ 14 := Nat.lt_of_le_of_lt Nat.and_le_left ha
  refine propext ⟨fun h r hr => ?_, fun h => ?_⟩
  · have := (nI_eq (by omega) (by omega)).1 h
    rw [← this, Nat.testBit_and, Bool.and_eq_true] at hr
    exact hr.1
  · congr 1
    refine Nat.eq_of_testBit_eq (fun r => ?_)
    rw [Nat.testBit_and]
    cases hr : b.testBit r with
    | false => rw [Bool.and_false]
    | true => rw [h r hr, Bool.and_true]
theorem x_cut {q : Nat} (hq : q < 8) : (1 : Int32) <<< (((6 : Int32) + nI q) &&& 31) = nI (2 ^ (6 + q)) := by
  have : ∀ q : Nat, q < 8 → (1 : Int32) <<< (((6 : Int32) + nI q) &&& 31) = nI (2 ^ (6 + q)) := by decide
  exact this q hq
/-- n is the set of the rows that vanish at v, of those that count so far -/
def xB (c : Nat) (g : Nat → Nat → Int32) (t : Nat) (v : Nat → Int) (n : Nat) : Prop := n < 2 ^ 14 ∧ ∀ r, n.testBit r = true ↔ (r < 2 * c ∧ v r = 0) ∨ ∃ q, q < t ∧ r = 6 + q ∧ z_dot (2 * c) (z_row c g (2 * c + q)) v = 0
def zG (c : Nat) (g : Nat → Nat → Int32) (t : Nat) (e : Nat → Int64) (n : Nat) : Prop := z_ext (2 * c) (2 * c + t) (z_row c g) (fun k => (e k).toInt) ∧ (∀ k, k < 6 → 2 * c ≤ k → e k = 0) ∧ xB c g t (fun k => (e k).toInt) n
def zP (c : Nat) (g : Nat → Nat → Int32) (t N : Nat) (E : Nat → Nat → Int64) (τ : Nat → Nat) : Prop := (∀ i, i < N → zG c g t (E i) (τ i)) ∧ ∀ i j, i < j → j < N → ∃ k, k < 2 * c ∧ (E i k).toInt ≠ (E j k).toInt
def zS (c : Nat) (g : Nat → Nat → Int32) (t N : Nat) (E : Nat → Nat → Int64) (τ : Nat → Nat) : Prop := zP c g t N E τ ∧ ∀ v, z_ext (2 * c) (2 * c + t) (z_row c g) v → ∃ i, i < N ∧ ∀ k, k < 2 * c → (E i k).toInt = v k
section bits
variable {c t N : Nat} {g : Nat → Nat → Int32} {E : Nat → Nat → Int64} {τ : Nat → Nat}
theorem zP.few (h3 : c = 2 ∨ c = 3) (ht : t ≤ q_nq c) (P : zP c g t N E τ) : N ≤ 128 := z_few (z_row_unit (t := t) (g := g)) (by omega) (z_row_in h3 ht) (L := fun i k => (E i k).toInt) (fun i hi => (P.1 i hi).1) P.2
theorem zP.add (P : zP c g t N E τ) {e : Nat → Int64} {n : Nat} (h : zG c g t e n) (hd : ∀ i, i < N → ∃ k, k < 2 * c ∧ (E i k).toInt ≠ (e k).toInt) : zP c g t (N + 1) (fun i => if i = N then e else E i) (fun i => if i = N then n else τ i) := by
  refine ⟨fun i hi => ?_, fun i j hij hj => ?_⟩
  · dsimp only
    by_cases e1 : i = N
    · rw [if_pos e1, if_pos e1]; exact h
    · rw [if_neg e1, if_neg e1]; exact P.1 i (by omega)
  · dsimp only
    rw [if_neg (show ¬ i = N by omega)]
    by_cases e1 : j = N
    · rw [if_pos e1]; exact hd i (by omega)
    · rw [if_neg e1]; exact P.2 i j hij (by omega)
theorem zP.ne (P : zP c g t N E τ) {i j : Nat} (hi : i < N) (hj : j < N) (h : ∀ k, k < 2 * c → (E i k).toInt = (E j k).toInt) : i = j := by
  rcases (show i < j ∨ i = j ∨ j < i by omega) with e | e | e
  · obtain ⟨k, hk, hn⟩ := P.2 i j e hj
    exact absurd (h k hk) hn
  · exact e
  · obtain ⟨k, hk, hn⟩ := P.2 j i e hi
    exact absurd (h k hk).symm hn
/-- the sets speak of the rows -/
theorem xB.row (h6 : 2 * c ≤ 6) {v w x : Nat → Int} {n m p : Nat} (hv : xB c g t v n) (hw : xB c g t w m) (hx : xB c g t x p) : (∀ r, (n &&& m).testBit r = true → p.testBit r = true) ↔ ∀ i, i < 2 * c + t → z_dot (2 * c) (z_row c g i) v = 0 → z_dot (2 * c) (z_row c g i) w = 0 → z_dot (2 * c) (z_row c g i) x = 0 := by
  have u := z_row_unit (c := c) (t := t) (g := g)
  constructor
  · intro h i hi h1 h2
    by_cases hc : i < 2 * c
    · rw [z_dot_unit u hc] at h1 h2 ⊢
      have h3 := h i (by rw [Nat.testBit_and, (hv.2 i).2 (Or.inl ⟨hc, h1⟩), (hw.2 i).2 (Or.inl ⟨hc, h2⟩)]; rfl)
      rcases (hx.2 i).1 h3 with z | ⟨q, z1, z2, z3⟩
      · exact z.2
      · omega
    · have e : i = 2 * c + (i - 2 * c) := by omega
      have h3 := h (6 + (i - 2 * c)) (by
        rw [Nat.testBit_and, (hv.2 _).2 (Or.inr ⟨i - 2 * c, by omega, rfl, by rw [← e]; exact h1⟩), (hw.2 _).2 (Or.inr ⟨i - 2 * c, by omega, rfl, by rw [← e]; exact h2⟩)]; rfl)
      rcases (hx.2 _).1 h3 with z | ⟨q, z1, z2, z3⟩
      · omega
      · rw [show q = i - 2 * c by omega, ← e] at z3
        exact z3
  · intro h r hr
    rw [Nat.testBit_and, Bool.and_eq_true] at hr
    rcases (hv.2 r).1 hr.1 with ⟨z1, z2⟩ | ⟨q, z1, z2, z3⟩
    · rcases (hw.2 r).1 hr.2 with ⟨y1, y2⟩ | ⟨q', y1, y2, y3⟩
      · refine (hx.2 r).2 (Or.inl ⟨z1, ?_⟩)
        have := h r (by omega) (by rw [z_dot_unit u z1]; exact z2) (by rw [z_dot_unit u z1]; exact y2)
        rw [z_dot_unit u z1] at this
        exact this
      · omega
    · rcases (hw.2 r).1 hr.2 with ⟨y1, y2⟩ | ⟨q', y1, y2, y3⟩
      · omega
      · have e : q' = q := by omega
        rw [e] at y3
        exact (hx.2 r).2 (Or.inr ⟨q, z1, z2, h _ (by omega) z3 y3⟩)
/-- the test of the sets is the neighbours' one -/
theorem zS.adj (h6 : 2 * c ≤ 6) (S : zS c g t N E τ) {i j : Nat} (hi : i < N) (hj : j < N) : (∀ s, s < N → s ≠ i → s ≠ j → ¬ nI (τ s) &&& (nI (τ i) &&& nI (τ j)) = nI (τ i) &&& nI (τ j)) ↔ z_adj (2 * c) (2 * c + t) (z_row c g) (fun k => (E i k).toInt) (fun k => (E j k).toInt) := by
  have P := S.1
  have hB := fun s hs => (P.1 s hs).2.2
  have he : ∀ s, s < N → (nI (τ s) &&& (nI (τ i) &&& nI (τ j)) = nI (τ i) &&& nI (τ j)) = ∀ r, (τ i &&& τ j).testBit r = true → (τ s).testBit r = true := fun s hs => by
    rw [x_and (τ i)]
    exact x_sub_set (hB s hs).1 (Nat.lt_of_le_of_lt Nat.and_le_left (hB i hi).1)
  constructor
  · intro h x hx hc
    obtain ⟨s, hs, es⟩ := S.2 x hx
    by_cases e1 : s = i
    · left; intro k hk; rw [← es k hk, e1]
    · by_cases e2 : s = j
      · right; intro k hk; rw [← es k hk, e2]
      · exfalso
        refine h s hs e1 e2 ?_
        rw [he s hs]
        exact (xB.row h6 (hB i hi) (hB j hj) (hB s hs)).2 (fun r hr h1 h2 => by
          rw [z_dot_congr es]
          exact hc r hr h1 h2)
  · intro h s hs e1 e2 hsub
    rw [he s hs] at hsub
    rcases h _ (P.1 s hs).1 ((xB.row h6 (hB i hi) (hB j hj) (hB s hs)).1 hsub) with z | z
    · exact e1 (P.ne hs hi z)
    · exact e2 (P.ne hs hj z)
/-- a vector that is kept -/
theorem zG.keep (ht : t < 8) (h6 : 2 * c ≤ 6) {e : Nat → Int64} {n w : Nat} (G : zG c g t e n) (hs : 0 ≤ z_dot (2 * c) (z_row c g (2 * c + t)) (fun k => (e k).toInt)) (hw : w = if z_dot (2 * c) (z_row c g (2 * c + t)) (fun k => (e k).toInt) = 0 then 2 ^ (6 + t) else 0) : zG c g (t + 1) e (n ||| w) := by
  obtain ⟨g1, g2, g3, g4⟩ := G
  have hw2 : w < 2 ^ 14 := by
    rw [hw]
    split
    · exact Nat.pow_lt_pow_right (by omega) (by omega)
    · exact Nat.pow_pos (by omega)
  refine ⟨dd_keep g1 hs, g2, Nat.or_lt_two_pow g3 hw2, fun r => ?_⟩
  rw [Nat.testBit_or, Bool.or_eq_true, g4 r]
  by_cases h0 : z_dot (2 * c) (z_row c g (2 * c + t)) (fun k => (e k).toInt) = 0
  · rw [if_pos h0] at hw
    rw [hw, Nat.testBit_two_pow, decide_eq_true_eq]
    constructor
    · rintro ((z | ⟨q, z1, z2, z3⟩) | z)
      · exact Or.inl z
      · exact Or.inr ⟨q, by omega, z2, z3⟩
      · exact Or.inr ⟨t, by omega, z.symm, h0⟩
    · rintro (z | ⟨q, z1, z2, z3⟩)
      · exact Or.inl (Or.inl z)
      · by_cases e : q = t
        · exact Or.inr (by omega)
        · exact Or.inl (Or.inr ⟨q, by omega, z2, z3⟩)
  · rw [if_neg h0] at hw
    rw [hw, Nat.zero_testBit]
    constructor
    · rintro ((z | ⟨q, z1, z2, z3⟩) | z)
      · exact Or.inl z
      · exact Or.inr ⟨q, by omega, z2, z3⟩
      · exact absurd z (by simp)
    · rintro (z | ⟨q, z1, z2, z3⟩)
      · exact Or.inl (Or.inl z)
      · by_cases e : q = t
        · rw [e] at z3; exact absurd z3 h0
        · exact Or.inl (Or.inr ⟨q, by omega, z2, z3⟩)
/-- a vector between two -/
theorem zG.between (ht : t < 8) (h6 : 2 * c ≤ 6) {x y e : Nat → Int64} {n m : Nat} {G : Int} (X : zG c g t x n) (Y : zG c g t y m) (adj : z_adj (2 * c) (2 * c + t) (z_row c g) (fun k => (x k).toInt) (fun k => (y k).toInt)) (sx : 0 < z_dot (2 * c) (z_row c g (2 * c + t)) (fun k => (x k).toInt)) (sy : z_dot (2 * c) (z_row c g (2 * c + t)) (fun k => (y k).toInt) < 0) (hG : 0 < G) (he : z_prim (2 * c) (fun k => (e k).toInt)) (h0 : ∀ k, k < 6 → 2 * c ≤ k → e k = 0) (eq : ∀ k, k < 2 * c → G * (e k).toInt = z_dot (2 * c) (z_row c g (2 * c + t)) (fun k => (x k).toInt) * (y k).toInt - z_dot (2 * c) (z_row c g (2 * c + t)) (fun k => (y k).toInt) * (x k).toInt) : zG c g (t + 1) e (n &&& m ||| 2 ^ (6 + t)) := by
  have u := z_row_unit (c := c) (t := t) (g := g)
  obtain ⟨t1, t2, t3⟩ := dd_tight (v := fun k => (e k).toInt) X.1.1 Y.1.1 sx sy hG eq
  have hx := X.2.2
  have hy := Y.2.2
  refine ⟨dd_between u (v := fun k => (e k).toInt) X.1.1 Y.1.1 adj sx sy hG he eq, h0, Nat.or_lt_two_pow (Nat.lt_of_le_of_lt Nat.and_le_left hx.1) (Nat.pow_lt_pow_right (by omega) (by omega)), fun r => ?_⟩
  rw [Nat.testBit_or, Bool.or_eq_true, Nat.testBit_and, Bool.and_eq_true, hx.2 r, hy.2 r, Nat.testBit_two_pow, decide_eq_true_eq]
  constructor
  · rintro (⟨z, y⟩ | z)
    · rcases z with ⟨z1, z2⟩ | ⟨q, z1, z2, z3⟩
      · rcases y with ⟨y1, y2⟩ | ⟨q', y1, y2, y3⟩
        · refine Or.inl ⟨z1, ?_⟩
          have := (t1 r (by omega)).2 ⟨by rw [z_dot_unit u z1]; exact z2, by rw [z_dot_unit u z1]; exact y2⟩
          rw [z_dot_unit u z1] at this
          exact this
        · omega
      · rcases y with ⟨y1, y2⟩ | ⟨q', y1, y2, y3⟩
        · omega
        · have e : q' = q := by omega
          rw [e] at y3
          exact Or.inr ⟨q, by omega, z2, (t1 _ (by omega)).2 ⟨z3, y3⟩⟩
    · exact Or.inr ⟨t, by omega, z.symm, t2⟩
  · rintro (⟨z1, z2⟩ | ⟨q, z1, z2, z3⟩)
    · have := (t1 r (by omega)).1 (by rw [z_dot_unit u z1]; exact z2)
      rw [z_dot_unit u z1, z_dot_unit u z1] at this
      exact Or.inl ⟨Or.inl ⟨z1, this.1⟩, Or.inl ⟨z1, this.2⟩⟩
    · by_cases e : q = t
      · exact Or.inr (by omega)
      · have := (t1 _ (show 2 * c + q < 2 * c + t by omega)).1 z3
        exact Or.inl ⟨Or.inr ⟨q, by omega, z2, this.1⟩, Or.inr ⟨q, by omega, z2, this.2⟩⟩
end bits
