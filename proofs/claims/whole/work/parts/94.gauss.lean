/-! ===== elimination: what holds of the rows, and how large they are ===== -/
/-- after c columns there are j pivots; T are the rows as they stand, R those that they came from -/
def gI (d m c j : Nat) (piv : Nat → Nat) (T R : Nat → Nat → Int) : Prop := (∀ i, i < j → piv i < c) ∧ (∀ i i', i < i' → i' < j → piv i ≠ piv i') ∧ (∀ i, i < j → T i (piv i) ≠ 0) ∧ (∀ i l, i < m → l < j → l ≠ i → T i (piv l) = 0) ∧ (∀ i, j ≤ i → i < m → ∀ k, k < c → T i k = 0) ∧ (∀ i, i < m → ∃ (a b : Int) (β : Nat → Int), a ≠ 0 ∧ (j ≤ i → b ≠ 0) ∧ ∀ k, k < d → a * T i k = b * R i k + z_sum j (fun l => β l * R l k)) ∧ (∀ μ : Nat → Int, (∀ i, i < j → z_sum j (fun l => μ l * R l (piv i)) = 0) → ∀ l, l < j → μ l = 0) ∧ (∀ w, (∀ i, i < m → z_dot d (T i) w = 0) ↔ ∀ i, i < m → z_dot d (R i) w = 0) ∧ (∀ i, i < m → (∀ k, k < d → T i k = 0) ∨ z_prim d (T i) ∨ ∀ k, k < d → (T i k).natAbs ≤ 18) ∧ j ≤ m ∧ c ≤ d
section gauss
variable {d m c j : Nat} {piv : Nat → Nat} {T R : Nat → Nat → Int}
theorem z_sum_sub (n : Nat) (f g : Nat → Int) : z_sum n (fun k => f k - g k) = z_sum n f - z_sum n g := by
  have h1 := z_sum_mul n (-1) g
  have h2 := z_sum_add n f (fun k => -1 * g k)
  rw [h1] at h2
  rw [← z_sum_congr (f := fun k => f k + -1 * g k) (fun k _ => by omega), h2]
  omega
theorem gI.clear (I : gI d m c j piv T R) {T' : Nat → Nat → Int} (hj : j < m) (hc : c < d) (hp : T j c ≠ 0) (ej : ∀ k, k < d → T' j k = T j k) (hh : z_prim d (T' j)) (hr : ∀ r, r < m → r ≠ j → ∃ G x y : Int, G ≠ 0 ∧ x ≠ 0 ∧ (∀ k, k < d → G * T' r k = x * T r k - y * T j k) ∧ T' r c = 0 ∧ ((∀ k, k < d → T' r k = 0) ∨ z_prim d (T' r) ∨ ∀ k, k < d → (T' r k).natAbs ≤ 18)) : gI d m (c + 1) (j + 1) (fun i => if i = j then c else piv i) T' R := by
  obtain ⟨a1, a2, b1, b2, c1, d1, e1, f1, h1, l1, l2⟩ := I
  have pj : ∀ i, i < j → (if i = j then c else piv i) = piv i := fun i hi => if_neg (by omega)
  have pjj : (if j = j then c else piv j) = c := if_pos rfl
  have Tjl : ∀ l, l < j → T j (piv l) = 0 := fun l hl => b2 j l hj hl (by omega)
  have hpd : ∀ i, i < j → piv i < d := fun i hi => by have := a1 i hi; omega
  refine ⟨fun i hi => ?_, fun i i' hii hi' => ?_, fun i hi => ?_, fun i l hi hl hne => ?_, fun i hi him k hk => ?_, fun i hi => ?_, fun μ hμ => ?_, fun w => ?_, fun i hi => ?_, by omega, by omega⟩
  · dsimp only
    by_cases e : i = j
    · rw [if_pos e]; omega
    · rw [if_neg e]; have := a1 i (by omega); omega
  · dsimp only
    rw [pj i (by omega)]
    by_cases e : i' = j
    · rw [if_pos e]; have := a1 i (by omega); omega
    · rw [if_neg e]; exact a2 i i' hii (by omega)
  · dsimp only
    by_cases e : i = j
    · rw [if_pos e, e, ej c hc]; exact hp
    · rw [if_neg e]
      have hi' : i < j := by omega
      obtain ⟨G, x, y, g1, g2, g3, -, -⟩ := hr i (by omega) e
      have := g3 (piv i) (hpd i hi')
      rw [Tjl i hi', Int.mul_zero, Int.sub_zero] at this
      intro z
      rw [z, Int.mul_zero] at this
      exact Int.mul_ne_zero g2 (b1 i hi') this.symm
  · dsimp only
    by_cases e : l = j
    · rw [if_pos e]
      obtain ⟨G, x, y, g1, g2, g3, g4, -⟩ := hr i hi (by omega)
      exact g4
    · rw [if_neg e]
      have hl' : l < j := by omega
      by_cases ei : i = j
      · rw [ei, ej _ (hpd l hl')]; exact Tjl l hl'
      · obtain ⟨G, x, y, g1, g2, g3, -, -⟩ := hr i hi ei
        have := g3 (piv l) (hpd l hl')
        rw [Tjl l hl', b2 i l hi hl' hne, Int.mul_zero, Int.mul_zero, Int.sub_zero] at this
        exact (Int.mul_eq_zero.1 this).resolve_left g1
  · obtain ⟨G, x, y, g1, g2, g3, g4, -⟩ := hr i him (by omega)
    by_cases e : k = c
    · rw [e]; exact g4
    · have := g3 k (by omega)
      rw [c1 i (by omega) him k (by omega), c1 j (Nat.le_refl _) hj k (by omega), Int.mul_zero, Int.mul_zero, Int.sub_zero] at this
      exact (Int.mul_eq_zero.1 this).resolve_left g1
  · obtain ⟨aj, bj, βj, ja, jb, jc⟩ := d1 j hj
    have hsplit : ∀ (β : Nat → Int) (v : Int) k, z_sum (j + 1) (fun l => (if l = j then v else β l) * R l k) = z_sum j (fun l => β l * R l k) + v * R j k := fun β v k => by
      show z_sum j _ + (if j = j then v else β j) * R j k = _
      rw [if_pos rfl, z_sum_congr (fun l hl => by rw [if_neg (by omega)])]
    by_cases ei : i = j
    · refine ⟨aj, 0, fun l => if l = j then bj else βj l, ja, fun z => by omega, fun k hk => ?_⟩
      rw [hsplit, ei, ej k hk, jc k hk]
      omega
    · obtain ⟨G, x, y, g1, g2, g3, -, -⟩ := hr i hi ei
      obtain ⟨ai, bi, βi, ia, ib, ic⟩ := d1 i hi
      refine ⟨ai * aj * G, x * aj * bi, fun l => if l = j then -(y * ai * bj) else x * aj * βi l - y * ai * βj l, Int.mul_ne_zero (Int.mul_ne_zero ia ja) g1, fun z => Int.mul_ne_zero (Int.mul_ne_zero g2 ja) (ib (by omega)), fun k hk => ?_⟩
      rw [hsplit]
      have q1 := g3 k hk
      have q2 := ic k hk
      have q3 := jc k hk
      have es : z_sum j (fun l => (x * aj * βi l - y * ai * βj l) * R l k) = x * aj * z_sum j (fun l => βi l * R l k) - y * ai * z_sum j (fun l => βj l * R l k) := by
        rw [← z_sum_mul, ← z_sum_mul, ← z_sum_sub]
        exact z_sum_congr (fun l _ => by rw [Int.sub_mul, Int.mul_assoc (x * aj), Int.mul_assoc (y * ai)])
      rw [es]
      generalize z_sum j (fun l => βi l * R l k) = Si at *
      generalize z_sum j (fun l => βj l * R l k) = Sj at *
      have lhs : ai * aj * G * T' i k = x * aj * (ai * T i k) - y * ai * (aj * T j k) := by
        rw [Int.mul_assoc, q1, Int.mul_sub]
        congr 1 <;> ac_rfl
      rw [lhs, q2, q3, Int.mul_add, Int.mul_add, Int.neg_mul]
      have t1 : x * aj * (bi * R i k) = x * aj * bi * R i k := by ac_rfl
      have t2 : y * ai * (bj * R j k) = y * ai * bj * R j k := by ac_rfl
      omega
  · -- independence
    have hμ' : ∀ i, i < j → z_sum (j + 1) (fun l => μ l * R l (piv i)) = 0 := fun i hi => by
      have := hμ i (by omega)
      dsimp only at this
      rw [pj i hi] at this
      exact this
    have hμj : z_sum (j + 1) (fun l => μ l * R l c) = 0 := by
      have := hμ j (by omega)
      dsimp only at this
      rw [pjj] at this
      exact this
    obtain ⟨aj, bj, βj, ja, jb, jc⟩ := d1 j hj
    have hbj := jb (Nat.le_refl _)
    have hs1 : ∀ k, z_sum (j + 1) (fun l => μ l * R l k) = z_sum j (fun l => μ l * R l k) + μ j * R j k := fun k => rfl
    have hcomb : ∀ k, k < d → z_sum j (fun l => (bj * μ l - μ j * βj l) * R l k) = bj * z_sum (j + 1) (fun l => μ l * R l k) - μ j * (aj * T j k) := fun k hk => by
      rw [jc k hk, hs1]
      have es : z_sum j (fun l => (bj * μ l - μ j * βj l) * R l k) = bj * z_sum j (fun l => μ l * R l k) - μ j * z_sum j (fun l => βj l * R l k) := by
        rw [← z_sum_mul, ← z_sum_mul, ← z_sum_sub]
        exact z_sum_congr (fun l _ => by rw [Int.sub_mul, Int.mul_assoc, Int.mul_assoc])
      rw [es, Int.mul_add, Int.mul_add]
      have : bj * (μ j * R j k) = μ j * (bj * R j k) := by ac_rfl
      omega
    have hz := e1 (fun l => bj * μ l - μ j * βj l) (fun i hi => by
      rw [hcomb _ (hpd i hi), hμ' i hi, Tjl i hi]
      simp)
    have h0 : μ j * (aj * T j c) = 0 := by
      have q := hcomb c hc
      rw [hμj, z_sum_congr (g := fun _ => 0) (fun l hl => by rw [hz l hl, Int.zero_mul]), z_sum_0] at q
      omega
    have hμ0 : μ j = 0 := (Int.mul_eq_zero.1 h0).resolve_right (Int.mul_ne_zero ja hp)
    intro l hl
    by_cases e : l = j
    · rw [e]; exact hμ0
    · have := hz l (by omega)
      rw [hμ0, Int.zero_mul, Int.sub_zero] at this
      exact (Int.mul_eq_zero.1 this).resolve_left hbj
  · rw [← f1 w]
    have hdot : ∀ r, r < m → r ≠ j → ∃ G x y : Int, G ≠ 0 ∧ x ≠ 0 ∧ G * z_dot d (T' r) w = x * z_dot d (T r) w - y * z_dot d (T j) w := fun r hr' hne => by
      obtain ⟨G, x, y, g1, g2, g3, -, -⟩ := hr r hr' hne
      refine ⟨G, x, y, g1, g2, ?_⟩
      unfold z_dot
      rw [← z_sum_mul, ← z_sum_mul, ← z_sum_mul, ← z_sum_sub]
      refine z_sum_congr (fun k hk => ?_)
      have q := g3 k hk
      have q1 : G * (w k * T' r k) = w k * (G * T' r k) := by ac_rfl
      have q2 : x * (w k * T r k) = w k * (x * T r k) := by ac_rfl
      have q3 : y * (w k * T j k) = w k * (y * T j k) := by ac_rfl
      rw [q1, q2, q3, q, Int.mul_sub]
    have hdj : z_dot d (T' j) w = z_dot d (T j) w := z_dot_row ej
    constructor
    · intro h i hi
      have hj0 : z_dot d (T j) w = 0 := by rw [← hdj]; exact h j hj
      by_cases e : i = j
      · rw [e]; exact hj0
      · obtain ⟨G, x, y, g1, g2, g3⟩ := hdot i hi e
        rw [h i hi, hj0, Int.mul_zero, Int.mul_zero, Int.sub_zero] at g3
        exact (Int.mul_eq_zero.1 g3.symm).resolve_left g2
    · intro h i hi
      by_cases e : i = j
      · rw [e, hdj]; exact h j hj
      · obtain ⟨G, x, y, g1, g2, g3⟩ := hdot i hi e
        rw [h i hi, h j hj, Int.mul_zero, Int.mul_zero, Int.sub_zero] at g3
        exact (Int.mul_eq_zero.1 g3).resolve_left g1
  · by_cases e : i = j
    · rw [e]; exact Or.inr (Or.inl hh)
    · obtain ⟨G, x, y, g1, g2, g3, g4, g5⟩ := hr i hi e
      exact g5
/-- one row divided by what it has in common -/
theorem gI.short (I : gI d m c j piv T R) {T' : Nat → Nat → Int} {q : Nat} {G : Int} (hG : 0 < G) (hq : ∀ k, k < d → G * T' q k = T q k) (hp : z_prim d (T' q)) (ho : ∀ i, i ≠ q → T' i = T i) : gI d m c j piv T' R := by
  obtain ⟨a1, a2, b1, b2, c1, d1, e1, f1, h1, l1, l2⟩ := I
  have hpd : ∀ i, i < j → piv i < d := fun i hi => by have := a1 i hi; omega
  have zero : ∀ i k, k < d → (T' i k = 0 ↔ T i k = 0) := fun i k hk => by
    by_cases e : i = q
    · rw [e, ← hq k hk]
      exact ⟨fun z => by rw [z, Int.mul_zero], fun z => (Int.mul_eq_zero.1 z).resolve_left (by omega)⟩
    · rw [ho i e]
  refine ⟨a1, a2, fun i hi z => b1 i hi ((zero i _ (hpd i hi)).1 z), fun i l hi hl hne => (zero i _ (hpd l hl)).2 (b2 i l hi hl hne), fun i hi him k hk => (zero i k (by omega)).2 (c1 i hi him k hk), fun i hi => ?_, e1, fun w => ?_, fun i hi => ?_, l1, l2⟩
  · obtain ⟨a, b, β, q1, q2, q3⟩ := d1 i hi
    by_cases e : i = q
    · refine ⟨a * G, b, β, Int.mul_ne_zero q1 (by omega), q2, fun k hk => ?_⟩
      rw [← q3 k hk, e, ← hq k hk, Int.mul_assoc]
    · exact ⟨a, b, β, q1, q2, fun k hk => by rw [ho i e]; exact q3 k hk⟩
  · rw [← f1 w]
    have hd : ∀ i, z_dot d (T' i) w = 0 ↔ z_dot d (T i) w = 0 := fun i => by
      by_cases e : i = q
      · have : z_dot d (T i) w = G * z_dot d (T' i) w := by
          rw [e]
          unfold z_dot
          rw [← z_sum_mul]
          exact z_sum_congr (fun k hk => by rw [← hq k hk]; ac_rfl)
        rw [this]
        exact ⟨fun z => by rw [z, Int.mul_zero], fun z => (Int.mul_eq_zero.1 z).resolve_left (by omega)⟩
      · rw [ho i e]
    exact ⟨fun h i hi => (hd i).1 (h i hi), fun h i hi => (hd i).2 (h i hi)⟩
  · by_cases e : i = q
    · rw [e]; exact Or.inr (Or.inl hp)
    · rw [ho i e]; exact h1 i hi
/-- two rows change places -/
def z_ex {α : Type} (f : Nat → α) (a b : Nat) : Nat → α := fun i => if i = a then f b else if i = b then f a else f i
theorem z_ex_val {α : Type} (f : Nat → α) {a b m : Nat} (ha : a < m) (hb : b < m) : ∀ i, i < m → ∃ i', i' < m ∧ z_ex f a b i = f i' ∧ (i ≠ a → i ≠ b → i' = i) ∧ (i = a → i' = b) ∧ (i = b → i ≠ a → i' = a) := fun i hi => by
  unfold z_ex
  by_cases e : i = a
  · rw [if_pos e]; exact ⟨b, hb, rfl, by omega, by omega, by omega⟩
  · rw [if_neg e]
    by_cases e2 : i = b
    · rw [if_pos e2]; exact ⟨a, ha, rfl, by omega, by omega, by omega⟩
    · rw [if_neg e2]; exact ⟨i, hi, rfl, by omega, by omega, by omega⟩
theorem z_ex_all {α : Type} (f : Nat → α) {a b m : Nat} (ha : a < m) (hb : b < m) (P : α → Prop) : (∀ i, i < m → P (z_ex f a b i)) ↔ ∀ i, i < m → P (f i) := by
  constructor
  · intro h i hi
    by_cases e : i = a
    · have := h b hb
      unfold z_ex at this
      by_cases e2 : b = a
      · rw [if_pos e2] at this; rw [e, ← e2]; exact this
      · rw [if_neg e2, if_pos rfl] at this; rw [e]; exact this
    · by_cases e2 : i = b
      · have := h a ha
        unfold z_ex at this
        rw [if_pos rfl] at this
        rw [e2]; exact this
      · have := h i hi
        unfold z_ex at this
        rw [if_neg e, if_neg e2] at this
        exact this
  · intro h i hi
    obtain ⟨i', hi', e, -⟩ := z_ex_val f ha hb i hi
    rw [e]
    exact h i' hi'
theorem gI.swap (I : gI d m c j piv T R) {q : Nat} (hj : j < m) (hq : q < m) (hjq : j ≤ q) : gI d m c j piv (z_ex T j q) (z_ex R j q) := by
  obtain ⟨a1, a2, b1, b2, c1, d1, e1, f1, h1, l1, l2⟩ := I
  have low : ∀ {α : Type} (f : Nat → α) l, l < j → z_ex f j q l = f l := fun f l hl => by
    unfold z_ex
    rw [if_neg (by omega), if_neg (by omega)]
  have valT : ∀ i, i < m → ∃ i', i' < m ∧ z_ex T j q i = T i' ∧ z_ex R j q i = R i' ∧ (j ≤ i ↔ j ≤ i') ∧ (i < j → i' = i) := fun i hi => by
    obtain ⟨i1, h1, e1, x1, x2, x3⟩ := z_ex_val T hj hq i hi
    obtain ⟨i2, h2, e2, y1, y2, y3⟩ := z_ex_val R hj hq i hi
    have : i1 = i2 := by omega
    subst this
    exact ⟨i1, h1, e1, e2, by omega, by omega⟩
  refine ⟨a1, a2, fun i hi => by rw [low T i hi]; exact b1 i hi, fun i l hi hl hne => ?_, fun i hi him k hk => ?_, fun i hi => ?_, fun μ hμ => ?_, fun w => ?_, ?_, l1, l2⟩
  · obtain ⟨i', hi', e, -, x1, x2⟩ := valT i hi
    rw [e]
    exact b2 i' l hi' hl (by omega)
  · obtain ⟨i', hi', e, -, x1, x2⟩ := valT i him
    rw [e]
    exact c1 i' (by omega) hi' k hk
  · obtain ⟨i', hi', e, e2, x1, x2⟩ := valT i hi
    obtain ⟨a, b, β, q1, q2, q3⟩ := d1 i' hi'
    refine ⟨a, b, β, q1, fun z => q2 (by omega), fun k hk => ?_⟩
    rw [e, e2, q3 k hk]
    congr 1
    exact z_sum_congr (fun l hl => by rw [low R l hl])
  · refine e1 μ (fun i hi => ?_)
    rw [← hμ i hi]
    exact z_sum_congr (fun l hl => by rw [low R l hl])
  · rw [z_ex_all T hj hq (fun r => z_dot d r w = 0), z_ex_all R hj hq (fun r => z_dot d r w = 0)]
    exact f1 w
  · exact (z_ex_all T hj hq (fun r => (∀ k, k < d → r k = 0) ∨ z_prim d r ∨ ∀ k, k < d → (r k).natAbs ≤ 18)).2 h1
/-- a column without a pivot -/
theorem gI.free (I : gI d m c j piv T R) (hc : c < d) (h : ∀ i, j ≤ i → i < m → T i c = 0) : gI d m (c + 1) j piv T R := by
  obtain ⟨a1, a2, b1, b2, c1, d1, e1, f1, h1, l1, l2⟩ := I
  exact ⟨fun i hi => by have := a1 i hi; omega, a2, b1, b2, fun i hi him k hk => by
    by_cases e : k = c
    · rw [e]; exact h i hi him
    · exact c1 i hi him k (by omega), d1, e1, f1, h1, l1, by omega⟩
end gauss
