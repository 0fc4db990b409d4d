/-! ===== elimination: bounds, and what is left at the end ===== -/
section gauss2
variable {d m c j : Nat} {piv : Nat → Nat} {T R : Nat → Nat → Int}
theorem z_l1_sum (n : Nat) (f : Nat → Int) : ((z_l1 n f : Nat) : Int) = z_sum n (fun k => ((f k).natAbs : Int)) := by
  induction n with
  | zero => rfl
  | succ n ih =>
    show ((z_l1 n f + (f n).natAbs : Nat) : Int) = z_sum n _ + _
    rw [Int.natCast_add, ih]
theorem z_sum_le_more {n r : Nat} {f : Nat → Int} (h : ∀ k, 0 ≤ f k) : z_sum n f ≤ z_sum (n + r) f := by
  rw [z_sum_split]
  have := z_sum_nn (n := r) (f := fun j => f (n + j)) (fun k _ => h (n + k))
  omega
theorem z_prodc (n L : Nat) : z_prod n (fun _ => L) = L ^ n := by
  induction n with
  | zero => rfl
  | succ n ih => show z_prod n _ * L = _; rw [ih, Nat.pow_succ]
theorem z_abs_sum {n X : Nat} {l r : Nat → Int} (hl : ∀ k, k < n → (l k).natAbs ≤ X) : (z_sum n (fun k => l k * r k)).natAbs ≤ X * z_l1 n r := by
  induction n with
  | zero => show (0 : Int).natAbs ≤ X * 0; simp
  | succ n ih =>
    have h1 := ih (fun k hk => hl k (by omega))
    show (z_sum n _ + l n * r n).natAbs ≤ X * (z_l1 n r + (r n).natAbs)
    have h2 : (l n * r n).natAbs ≤ X * (r n).natAbs := by
      rw [Int.natAbs_mul]
      exact Nat.mul_le_mul_right _ (hl n (by omega))
    rw [Nat.mul_add]
    omega
theorem gI.bnd (I : gI d m c j piv T R) (hm : m ≤ 5) (hR : ∀ k, k < d → z_sum m (fun i => ((R i k).natAbs : Int)) ≤ 55) : ∀ i, i < m → ∀ k, k < d → (T i k).natAbs ≤ 503284375 := by
  obtain ⟨a1, a2, b1, b2, c1, d1, e1, f1, h1, l1, l2⟩ := I
  have hpd : ∀ i, i < j → piv i < d := fun i hi => by have := a1 i hi; omega
  intro i hi k hk
  rcases h1 i hi with z | z | z
  · rw [z k hk]; simp
  · obtain ⟨a, b, β, q1, q2, q3⟩ := d1 i hi
    by_cases hij : j ≤ i
    · -- a row without a pivot
      have hcol : ∀ k, k < d → z_l1 (j + 1) (fun l => if l < j then R l k else R i k) ≤ 55 := fun k hk => by
        have h2 := hR k hk
        have h3 := z_l1_sum (j + 1) (fun l => if l < j then R l k else R i k)
        have h4 : z_sum (j + 1) (fun l => (((if l < j then R l k else R i k).natAbs : Nat) : Int)) = z_sum j (fun l => ((R l k).natAbs : Int)) + ((R i k).natAbs : Int) := by
          show z_sum j _ + (((if j < j then R j k else R i k).natAbs : Nat) : Int) = _
          rw [if_neg (by omega), z_sum_congr (fun l hl => by rw [if_pos hl])]
        obtain ⟨r, hr⟩ : ∃ r, m = j + r := ⟨m - j, by omega⟩
        have h5 : z_sum m (fun i => ((R i k).natAbs : Int)) = z_sum j (fun l => ((R l k).natAbs : Int)) + z_sum r (fun q => ((R (j + q) k).natAbs : Int)) := by rw [hr, z_sum_split]
        have h6 := z_sum_ge (n := r) (f := fun q => ((R (j + q) k).natAbs : Int)) (fun q _ => by omega) (i - j) (by omega)
        have h7 : ((R (j + (i - j)) k).natAbs : Int) = ((R i k).natAbs : Int) := by rw [show j + (i - j) = i by omega]
        have h8 : ((R i k).natAbs : Int) ≤ z_sum r (fun q => ((R (j + q) k).natAbs : Int)) := by rw [← h7]; exact h6
        omega
      obtain ⟨x, x1, x2, x3⟩ := z_siegel (d := j + 1) (m := j) (X := 9150625) (R := fun r l => if l < j then R l (piv r) else R i (piv r)) (L := fun _ => 55) rfl (fun r hr => ⟨hcol _ (hpd r hr), by omega⟩) (by
        rw [z_prodc]
        rcases (show j = 0 ∨ j = 1 ∨ j = 2 ∨ j = 3 ∨ j = 4 by omega) with e | e | e | e | e <;> subst e <;> decide)
      have hs : ∀ k, z_sum (j + 1) (fun l => x l * (if l < j then R l k else R i k)) = z_sum j (fun l => x l * R l k) + x j * R i k := fun k => by
        show z_sum j _ + x j * (if j < j then R j k else R i k) = _
        rw [if_neg (by omega), z_sum_congr (fun l hl => by rw [if_pos hl])]
      generalize hS : (fun k => z_sum (j + 1) (fun l => x l * (if l < j then R l k else R i k))) = S
      have eS : ∀ k, S k = z_sum j (fun l => x l * R l k) + x j * R i k := fun k => by rw [← hS]; exact hs k
      have bS : ∀ k, k < d → (S k).natAbs ≤ 503284375 := fun k hk => by
        have h2 := z_abs_sum (r := fun l => if l < j then R l k else R i k) x2
        have h3 := hcol k hk
        rw [← hS]
        refine Nat.le_trans h2 ?_
        exact Nat.le_trans (Nat.mul_le_mul_left _ h3) (by decide)
      have S0 : ∀ r, r < j → S (piv r) = 0 := fun r hr => by rw [← hS]; exact x3 r hr
      have hb := q2 hij
      have hcomb : ∀ k, k < d → z_sum j (fun l => (b * x l - x j * β l) * R l k) = b * S k - x j * (a * T i k) := fun k hk => by
        rw [q3 k hk, eS]
        have es : z_sum j (fun l => (b * x l - x j * β l) * R l k) = b * z_sum j (fun l => x l * R l k) - x j * z_sum j (fun l => β l * R l k) := by
          rw [← z_sum_mul, ← z_sum_mul, ← z_sum_sub]
          exact z_sum_congr (fun l _ => by rw [Int.sub_mul, Int.mul_assoc, Int.mul_assoc])
        rw [es, Int.mul_add, Int.mul_add]
        have : b * (x j * R i k) = x j * (b * R i k) := by ac_rfl
        omega
      have hz := e1 (fun l => b * x l - x j * β l) (fun r hr => by
        rw [hcomb _ (hpd r hr), S0 r hr, b2 i r hi hr (by omega)]
        simp)
      have hprop : ∀ k, k < d → b * S k = x j * a * T i k := fun k hk => by
        have q := hcomb k hk
        rw [z_sum_congr (g := fun _ => 0) (fun l hl => by rw [hz l hl, Int.zero_mul]), z_sum_0] at q
        rw [Int.mul_assoc]
        omega
      have hxj : x j ≠ 0 := fun hx0 => by
        obtain ⟨l, hl, hn⟩ := x1
        by_cases e : l = j
        · exact hn (by rw [e]; exact hx0)
        · have := hz l (by omega)
          rw [hx0, Int.zero_mul, Int.sub_zero] at this
          exact hn ((Int.mul_eq_zero.1 this).resolve_left hb)
      refine z_shortest z ?_ hb hprop bS k hk
      obtain ⟨k0, hk0, hn0⟩ := z.1
      refine ⟨k0, hk0, fun h0 => ?_⟩
      have := hprop k0 hk0
      rw [h0, Int.mul_zero] at this
      exact Int.mul_ne_zero (Int.mul_ne_zero hxj q1) hn0 this.symm
    · -- a pivot's row
      have hij' : i < j := by omega
      have hcol : ∀ k, k < d → z_l1 j (fun l => R l k) ≤ 55 := fun k hk => by
        have h2 := hR k hk
        have h3 := z_l1_sum j (fun l => R l k)
        obtain ⟨r, hr⟩ : ∃ r, m = j + r := ⟨m - j, by omega⟩
        have h4 := z_sum_le_more (n := j) (r := r) (f := fun l => ((R l k).natAbs : Int)) (fun _ => by omega)
        rw [← hr] at h4
        omega
      let sk : Nat → Nat := fun r => if r < i then r else r + 1
      have hsk : ∀ r, r < j - 1 → sk r < j ∧ sk r ≠ i := fun r hr => by
        show (if r < i then r else r + 1) < j ∧ (if r < i then r else r + 1) ≠ i
        split <;> omega
      have hsk2 : ∀ r, r < j → r ≠ i → ∃ r', r' < j - 1 ∧ sk r' = r := fun r hr hne => by
        by_cases h : r < i
        · exact ⟨r, by omega, if_pos h⟩
        · exact ⟨r - 1, by omega, by show (if r - 1 < i then r - 1 else r - 1 + 1) = r; rw [if_neg (by omega)]; omega⟩
      obtain ⟨x, x1, x2, x3⟩ := z_siegel (d := j) (m := j - 1) (X := 9150625) (R := fun r l => R l (piv (sk r))) (L := fun _ => 55) (by omega) (fun r hr => ⟨hcol _ (hpd _ (hsk r hr).1), by omega⟩) (by
        rw [z_prodc]
        rcases (show j = 1 ∨ j = 2 ∨ j = 3 ∨ j = 4 ∨ j = 5 by omega) with e | e | e | e | e <;> subst e <;> decide)
      generalize hS : (fun k => z_sum j (fun l => x l * R l k)) = S
      have eS : ∀ k, S k = z_sum j (fun l => x l * R l k) := fun k => by rw [← hS]
      have bS : ∀ k, k < d → (S k).natAbs ≤ 503284375 := fun k hk => by
        have h2 := z_abs_sum (r := fun l => R l k) x2
        have h3 := hcol k hk
        rw [eS]
        refine Nat.le_trans h2 ?_
        exact Nat.le_trans (Nat.mul_le_mul_left _ h3) (by decide)
      have S0 : ∀ r, r < j → r ≠ i → S (piv r) = 0 := fun r hr hne => by
        obtain ⟨r', hr', e⟩ := hsk2 r hr hne
        rw [eS, ← e]
        exact x3 r' hr'
      have Si : S (piv i) ≠ 0 := fun h0 => by
        obtain ⟨l, hl, hn⟩ := x1
        exact hn (e1 x (fun r hr => by
          rw [← eS]
          by_cases e : r = i
          · rw [e]; exact h0
          · exact S0 r hr e) l hl)
      have q3' : ∀ k, k < d → a * T i k = z_sum j (fun l => (β l + if l = i then b else 0) * R l k) := fun k hk => by
        rw [q3 k hk]
        have : z_sum j (fun l => (β l + if l = i then b else 0) * R l k) = z_sum j (fun l => β l * R l k) + z_sum j (fun l => (if l = i then b else 0) * R l k) := by
          rw [← z_sum_add]
          exact z_sum_congr (fun l _ => Int.add_mul _ _ _)
        have h2 : z_sum j (fun l => (if l = i then b else 0) * R l k) = b * R i k := by
          rw [z_sum_one hij' (fun l _ hne => by rw [if_neg hne, Int.zero_mul]), if_pos rfl]
        rw [this, h2]
        omega
      have hcomb : ∀ k, k < d → z_sum j (fun l => (a * T i (piv i) * x l - S (piv i) * (β l + if l = i then b else 0)) * R l k) = a * (T i (piv i) * S k - S (piv i) * T i k) := fun k hk => by
        have es : z_sum j (fun l => (a * T i (piv i) * x l - S (piv i) * (β l + if l = i then b else 0)) * R l k) = a * T i (piv i) * z_sum j (fun l => x l * R l k) - S (piv i) * z_sum j (fun l => (β l + if l = i then b else 0) * R l k) := by
          rw [← z_sum_mul, ← z_sum_mul, ← z_sum_sub]
          exact z_sum_congr (fun l _ => by rw [Int.sub_mul, Int.mul_assoc (a * T i (piv i)), Int.mul_assoc (S (piv i))])
        rw [es, ← q3' k hk, ← eS, Int.mul_sub]
        congr 1 <;> ac_rfl
      have hz := e1 (fun l => a * T i (piv i) * x l - S (piv i) * (β l + if l = i then b else 0)) (fun r hr => by
        rw [hcomb _ (hpd r hr)]
        by_cases e : r = i
        · rw [e, Int.mul_comm (T i (piv i)), Int.sub_self, Int.mul_zero]
        · rw [S0 r hr e, b2 i r hi hr e]
          simp)
      have hprop : ∀ k, k < d → T i (piv i) * S k = S (piv i) * T i k := fun k hk => by
        have q := hcomb k hk
        rw [z_sum_congr (g := fun _ => 0) (fun l hl => by rw [hz l hl, Int.zero_mul]), z_sum_0] at q
        have := (Int.mul_eq_zero.1 q.symm).resolve_left q1
        omega
      exact z_shortest z ⟨piv i, hpd i hij', Si⟩ (b1 i hij') hprop bS k hk
  · have := z k hk
    omega
theorem z_sum_two {n a b : Nat} {f : Nat → Int} (ha : a < n) (hb : b < n) (hne : a ≠ b) (h : ∀ k, k < n → k ≠ a → k ≠ b → f k = 0) : z_sum n f = f a + f b := by
  have e : z_sum n f = z_sum n (fun k => if k = a then f a else 0) + z_sum n (fun k => if k = b then f b else 0) := by
    rw [← z_sum_add]
    refine z_sum_congr (fun k hk => ?_)
    by_cases e1 : k = a
    · rw [if_pos e1, if_neg (by omega), e1]; omega
    · rw [if_neg e1]
      by_cases e2 : k = b
      · rw [if_pos e2, e2]; omega
      · rw [if_neg e2, h k hk e1 e2]; omega
  rw [e, z_sum_one ha (fun k _ hne => if_neg hne), z_sum_one hb (fun k _ hne => if_neg hne), if_pos rfl, if_pos rfl]
/-- the product of all but one -/
theorem z_prods {j : Nat} {p : Nat → Int} (hp : ∀ i, i < j → p i ≠ 0) : ∃ D : Int, D ≠ 0 ∧ ∀ i, i < j → p i ∣ D := by
  induction j with
  | zero => exact ⟨1, by omega, fun i hi => by omega⟩
  | succ j ih =>
    obtain ⟨D, d1, d2⟩ := ih (fun i hi => hp i (by omega))
    refine ⟨D * p j, Int.mul_ne_zero d1 (hp j (by omega)), fun i hi => ?_⟩
    by_cases e : i = j
    · rw [e]; exact Int.dvd_mul_left _ _
    · exact Int.dvd_trans (d2 i (by omega)) (Int.dvd_mul_right _ _)
/-- a vector that the rows leave, for a column without a pivot -/
theorem gI.vec (I : gI d m d j piv T R) {f : Nat} (hf : f < d) (hn : ∀ i, i < j → piv i ≠ f) : ∃ x : Nat → Int, x f ≠ 0 ∧ (∀ k, k < d → k ≠ f → (∀ i, i < j → piv i ≠ k) → x k = 0) ∧ ∀ i, i < m → z_dot d (T i) x = 0 := by
  obtain ⟨a1, a2, b1, b2, c1, d1, e1, f1, h1, l1, l2⟩ := I
  obtain ⟨D, hD, hdv⟩ := z_prods (p := fun i => T i (piv i)) b1
  have hdv' : ∀ i, i < j → T i (piv i) * (D / T i (piv i)) = D := fun i hi => Int.mul_ediv_cancel' (hdv i hi)
  generalize hx : (fun k => (if k = f then D else 0) + z_sum j (fun i => if piv i = k then -(T i f * (D / T i (piv i))) else 0)) = x
  have ex : ∀ k, x k = (if k = f then D else 0) + z_sum j (fun i => if piv i = k then -(T i f * (D / T i (piv i))) else 0) := fun k => by rw [← hx]
  have xf : x f = D := by
    rw [ex, if_pos rfl, z_sum_congr (g := fun _ => 0) (fun i hi => if_neg (hn i hi)), z_sum_0, Int.add_zero]
  have xp : ∀ i, i < j → x (piv i) = -(T i f * (D / T i (piv i))) := fun i hi => by
    rw [ex, if_neg (hn i hi), z_sum_one hi (fun l hl hne => if_neg (fun z => by
      rcases (show l < i ∨ i < l by omega) with h | h
      · exact a2 l i h hi z
      · exact a2 i l h hl z.symm)), if_pos rfl, Int.zero_add]
  refine ⟨x, by rw [xf]; exact hD, fun k hk hkf hkp => ?_, fun i hi => ?_⟩
  · rw [ex, if_neg hkf, z_sum_congr (g := fun _ => 0) (fun i hi => if_neg (hkp i hi)), z_sum_0, Int.add_zero]
  · by_cases hij : i < j
    · unfold z_dot
      rw [z_sum_two (a1 i hij) hf (hn i hij) (fun k hk hk1 hk2 => by
        by_cases hp : ∃ l, l < j ∧ piv l = k
        · obtain ⟨l, hl, e⟩ := hp
          have hli : l ≠ i := fun z => hk1 (by rw [← e, z])
          rw [← e, b2 i l hi hl hli, Int.mul_zero]
        · rw [ex, if_neg hk2, z_sum_congr (g := fun _ => 0) (fun l hl => if_neg (fun z => hp ⟨l, hl, z⟩)), z_sum_0, Int.add_zero, Int.zero_mul]), xf, xp i hij, Int.neg_mul]
      have h3 := hdv' i hij
      have h4 : T i f * (D / T i (piv i)) * T i (piv i) = T i f * (T i (piv i) * (D / T i (piv i))) := by ac_rfl
      rw [h4, h3, Int.mul_comm]
      omega
    · unfold z_dot
      rw [z_sum_congr (g := fun _ => 0) (fun k hk => by rw [c1 i (by omega) hi k hk, Int.mul_zero]), z_sum_0]
/-- with one free column: the rows in full, and what they leave -/
theorem gI.one (I : gI d m d m piv T R) {f : Nat} (hf : f < d) (hn : ∀ i, i < m → piv i ≠ f) (hall : ∀ k, k < d → k = f ∨ ∃ i, i < m ∧ k = piv i) : (∀ i, i < m → ∀ w, z_dot d (T i) w = w (piv i) * T i (piv i) + w f * T i f) ∧ ∃ v, z_prim d v ∧ 0 < v f ∧ (∀ i, i < m → z_dot d (R i) v = 0) ∧ ∀ w, (∀ i, i < m → z_dot d (R i) w = 0) → ∃ a b : Int, a ≠ 0 ∧ ∀ k, k < d → a * w k = b * v k := by
  obtain ⟨a1, a2, b1, b2, c1, d1, e1, f1, h1, l1, l2⟩ := id I
  have hdot : ∀ i, i < m → ∀ w, z_dot d (T i) w = w (piv i) * T i (piv i) + w f * T i f := fun i hi w => by
    unfold z_dot
    rw [z_sum_two (a1 i hi) hf (hn i hi) (fun k hk hk1 hk2 => by
      rcases hall k hk with z | ⟨l, hl, z⟩
      · exact absurd z hk2
      · have hli : l ≠ i := fun y => hk1 (by rw [z, y])
        rw [z, b2 i l hi hl hli, Int.mul_zero])]
  refine ⟨hdot, ?_⟩
  obtain ⟨x, x1, x2, x3⟩ := I.vec hf hn
  obtain ⟨g, hg, y, hy, ey⟩ := z_part ⟨f, hf, x1⟩
  have yf : y f ≠ 0 := fun z => x1 (by rw [ey f hf, z, Int.mul_zero])
  have hyR : ∀ i, i < m → z_dot d (T i) y = 0 := fun i hi => by
    have := x3 i hi
    rw [z_dot_congr ey, z_dot_mul] at this
    exact (Int.mul_eq_zero.1 this).resolve_left (by omega)
  have hv : ∃ v, z_prim d v ∧ 0 < v f ∧ ∀ i, i < m → z_dot d (T i) v = 0 := by
    by_cases hs : 0 < y f
    · exact ⟨y, hy, hs, hyR⟩
    · refine ⟨fun k => -1 * y k, z_prim_of (by rw [z_gcd_mul, hy.g]; rfl), by show 0 < -1 * y f; omega, fun i hi => by rw [z_dot_mul, hyR i hi]; simp⟩
  obtain ⟨v, v1, v2, v3⟩ := hv
  refine ⟨v, v1, v2, (f1 v).1 v3, fun w hw => ⟨v f, w f, by omega, fun k hk => ?_⟩⟩
  have hw3 := (f1 w).2 hw
  rcases hall k hk with z | ⟨i, hi, z⟩
  · rw [z, Int.mul_comm]
  · have e2 := hw3 i hi
    have e3 := v3 i hi
    rw [hdot i hi] at e2 e3
    rw [z]
    have e4 : T i (piv i) * (v f * w (piv i)) = T i (piv i) * (w f * v (piv i)) := by
      have t1 : T i (piv i) * (v f * w (piv i)) = v f * (w (piv i) * T i (piv i)) := by ac_rfl
      have t2 : T i (piv i) * (w f * v (piv i)) = w f * (v (piv i) * T i (piv i)) := by ac_rfl
      rw [t1, t2, show w (piv i) * T i (piv i) = -(w f * T i f) by omega, show v (piv i) * T i (piv i) = -(v f * T i f) by omega, Int.mul_neg, Int.mul_neg]
      congr 1
      ac_rfl
    exact Int.eq_of_mul_eq_mul_left (b1 i hi) e4
end gauss2
