/-! ===== every game has obedient dice ===== -/
theorem z_max {b : Nat → Int} : ∀ n : Nat, 0 < n → ∃ i, i < n ∧ ∀ j, j < n → b j ≤ b i := by
  intro n
  induction n with
  | zero => intro h; omega
  | succ n ih =>
    intro _
    rcases Nat.eq_zero_or_pos n with e | e
    · subst e
      exact ⟨0, by omega, fun j hj => by rw [show j = 0 by omega]; exact Int.le_refl _⟩
    · obtain ⟨i, hi, h⟩ := ih e
      by_cases h1 : b i < b n
      · refine ⟨n, by omega, fun j hj => ?_⟩
        by_cases ej : j = n
        · rw [ej]; exact Int.le_refl _
        · have := h j (by omega); omega
      · refine ⟨i, by omega, fun j hj => ?_⟩
        by_cases ej : j = n
        · rw [ej]; omega
        · exact h j (by omega)
def z_nash (c : Nat) (b0 b1 D : Nat → Int) (P0 P1 : Int) (Q : Nat → Int) : Prop := (0 ≤ P0 ∧ 0 ≤ P1) ∧ (P0 ≠ 0 ∨ P1 ≠ 0) ∧ (∀ j, j < c → 0 ≤ Q j) ∧ (∃ j, j < c ∧ Q j ≠ 0) ∧ 0 ≤ P0 * z_sum c (fun j => Q j * D j) ∧ 0 ≤ P1 * -(z_sum c (fun j => Q j * D j)) ∧ ∀ j j', j < c → j' < c → 0 ≤ Q j * (P0 * (b0 j - b0 j') + P1 * (b1 j - b1 j'))
theorem z_nash1 {c : Nat} {b0 b1 D : Nat → Int} {x : Nat} (hx : x < c) (hD : D x < 0) (hy : ∀ y, y < c → y ≠ x → 0 ≤ D y ∧ b0 y < b0 x) (he : ∃ y, y < c ∧ b1 x < b1 y) : ∃ P0 P1 Q, z_nash c b0 b1 D P0 P1 Q := by
  obtain ⟨y, hy1, hy2, hm⟩ := z_min (b := fun j => b1 j - b1 x) (a := fun j => b0 x - b0 j) c (by
    obtain ⟨y, h1, h2⟩ := he
    exact ⟨y, h1, by omega⟩)
  have hyx : y ≠ x := fun z => by rw [z] at hy2; omega
  have hY := hy y hy1 hyx
  have hs : z_sum c (fun j => (if j = x then D y else if j = y then -D x else 0) * D j) = 0 := by
    have e3 : z_sum c (fun j => (if j = x then D y else if j = y then -D x else 0) * D j) = z_sum c (fun j => if j = x then D y * D x else 0) + z_sum c (fun j => if j = y then -D x * D y else 0) := by
      rw [← z_sum_add]
      refine z_sum_congr (fun j _ => ?_)
      by_cases y1 : j = x
      · rw [if_pos y1, if_pos y1, if_neg (fun z => hyx (z.symm.trans y1)), y1, Int.add_zero]
      · rw [if_neg y1, if_neg y1, Int.zero_add]
        by_cases y2 : j = y
        · rw [if_pos y2, if_pos y2, y2]
        · rw [if_neg y2, if_neg y2, Int.zero_mul]
    rw [e3, z_sum_one hx (fun l' _ hne => if_neg hne), z_sum_one hy1 (fun l' _ hne => if_neg hne), if_pos rfl, if_pos rfl, Int.neg_mul, Int.mul_comm (D y)]
    omega
  have hbest : ∀ j', j' < c → 0 ≤ (b1 y - b1 x) * (b0 x - b0 j') + (b0 x - b0 y) * (b1 x - b1 j') := fun j' hj' => by
    have e1 : (b0 x - b0 y) * (b1 x - b1 j') = -((b0 x - b0 y) * (b1 j' - b1 x)) := by rw [← Int.mul_neg]; congr 1; omega
    rw [e1]
    by_cases h1 : 0 < b1 j' - b1 x
    · have h2 := hm j' hj' h1
      rw [Int.mul_comm (b1 y - b1 x)]
      omega
    · have h2 : 0 ≤ b0 x - b0 j' := by
        by_cases e : j' = x
        · rw [e]; omega
        · have := (hy j' hj' e).2; omega
      have h3 : 0 ≤ (b1 y - b1 x) * (b0 x - b0 j') := Int.mul_nonneg (by omega) h2
      have h4 : 0 ≤ (b0 x - b0 y) * -(b1 j' - b1 x) := Int.mul_nonneg (by omega) (by omega)
      rw [Int.mul_neg] at h4
      omega
  refine ⟨b1 y - b1 x, b0 x - b0 y, fun j => if j = x then D y else if j = y then -D x else 0, ⟨by omega, by omega⟩, Or.inl (by omega), fun j _ => ?_, ⟨y, hy1, ?_⟩, ?_, ?_, fun j j' hj hj' => ?_⟩
  · dsimp only
    split
    · omega
    · split <;> omega
  · dsimp only
    rw [if_neg hyx, if_pos rfl]
    omega
  · rw [hs]; simp
  · rw [hs]; simp
  · dsimp only
    have hb := hbest j' hj'
    by_cases y1 : j = x
    · rw [if_pos y1, y1]
      exact Int.mul_nonneg hY.1 hb
    · rw [if_neg y1]
      by_cases y2 : j = y
      · rw [if_pos y2, y2]
        refine Int.mul_nonneg (by omega) ?_
        have e2 : (b1 y - b1 x) * (b0 y - b0 j') + (b0 x - b0 y) * (b1 y - b1 j') = (b1 y - b1 x) * (b0 x - b0 j') + (b0 x - b0 y) * (b1 x - b1 j') := by
          have p1 : b0 y - b0 j' = (b0 x - b0 j') + -(b0 x - b0 y) := by omega
          have p2 : b1 y - b1 j' = (b1 x - b1 j') + (b1 y - b1 x) := by omega
          rw [p1, p2, Int.mul_add, Int.mul_add, Int.mul_neg, Int.mul_comm (b1 y - b1 x) (b0 x - b0 y)]
          omega
        rw [e2]
        exact hb
      · rw [if_neg y2, Int.zero_mul]; omega
theorem z_nash_ex {c : Nat} (h3 : c = 2 ∨ c = 3) (b0 b1 D : Nat → Int) : ∃ P0 P1 Q, z_nash c b0 b1 D P0 P1 Q := by
  have hc : 0 < c := by omega
  have pure0 : ∀ j, j < c → ∀ D : Nat → Int, z_sum c (fun j' => (if j' = j then 1 else 0) * D j') = D j := fun j hj D => by
    rw [z_sum_one hj (fun l' _ hne => by rw [if_neg hne, Int.zero_mul]), if_pos rfl, Int.one_mul]
  by_cases hA : ∃ j, j < c ∧ (∀ j', j' < c → b0 j' ≤ b0 j) ∧ 0 ≤ D j
  · obtain ⟨j, hj, h1, h2⟩ := hA
    refine ⟨1, 0, fun j' => if j' = j then 1 else 0, ⟨by omega, by omega⟩, Or.inl (by omega), fun j' _ => by dsimp only; split <;> omega, ⟨j, hj, by dsimp only; rw [if_pos rfl]; omega⟩, ?_, ?_, fun i i' hi hi' => ?_⟩
    · rw [pure0 j hj]; omega
    · rw [Int.zero_mul]; omega
    · dsimp only
      by_cases e : i = j
      · rw [if_pos e, e]
        have := h1 i' hi'
        omega
      · rw [if_neg e, Int.zero_mul]; omega
  · by_cases hB : ∃ j, j < c ∧ (∀ j', j' < c → b1 j' ≤ b1 j) ∧ D j ≤ 0
    · obtain ⟨j, hj, h1, h2⟩ := hB
      refine ⟨0, 1, fun j' => if j' = j then 1 else 0, ⟨by omega, by omega⟩, Or.inr (by omega), fun j' _ => by dsimp only; split <;> omega, ⟨j, hj, by dsimp only; rw [if_pos rfl]; omega⟩, ?_, ?_, fun i i' hi hi' => ?_⟩
      · rw [Int.zero_mul]; omega
      · rw [pure0 j hj]; omega
      · dsimp only
        by_cases e : i = j
        · rw [if_pos e, e]
          have := h1 i' hi'
          omega
        · rw [if_neg e, Int.zero_mul]; omega
    · obtain ⟨j0, hj0, m0⟩ := z_max (b := b0) c hc
      obtain ⟨j1, hj1, m1⟩ := z_max (b := b1) c hc
      have d0 : D j0 < 0 := Classical.byContradiction (fun z => hA ⟨j0, hj0, m0, by omega⟩)
      have d1 : 0 < D j1 := Classical.byContradiction (fun z => hB ⟨j1, hj1, m1, by omega⟩)
      have h0 : ∀ y, y < c → 0 ≤ D y → b0 y < b0 j0 := fun y hy h => Classical.byContradiction (fun z => hA ⟨y, hy, fun j' hj' => by have := m0 j' hj'; omega, h⟩)
      have h1 : ∀ y, y < c → D y ≤ 0 → b1 y < b1 j1 := fun y hy h => Classical.byContradiction (fun z => hB ⟨y, hy, fun j' hj' => by have := m1 j' hj'; omega, h⟩)
      by_cases hall : ∀ y, y < c → y ≠ j0 → 0 ≤ D y
      · exact z_nash1 hj0 d0 (fun y hy hne => ⟨hall y hy hne, h0 y hy (hall y hy hne)⟩) ⟨j1, hj1, h1 j0 hj0 (by omega)⟩
      · have hex : ∃ y, y < c ∧ y ≠ j0 ∧ D y < 0 := Classical.byContradiction (fun z => hall (fun y hy hne => Classical.byContradiction (fun z2 => z ⟨y, hy, hne, by omega⟩)))
        obtain ⟨y2, hy2, hne2, hd2⟩ := hex
        have hn1 : j1 ≠ j0 := fun z => by rw [z] at d1; omega
        have hn2 : j1 ≠ y2 := fun z => by rw [z] at d1; omega
        have hothers : ∀ y, y < c → y ≠ j1 → D y < 0 := fun y hy hne => by
          rcases (show y = j0 ∨ y = y2 by omega) with e | e
          · rw [e]; exact d0
          · rw [e]; exact hd2
        obtain ⟨P0, P1, Q, n1, n2, n3, n4, n5, n6, n7⟩ := z_nash1 (b0 := b1) (b1 := b0) (D := fun j => -D j) hj1 (by omega) (fun y hy hne => ⟨by have := hothers y hy hne; omega, h1 y hy (by have := hothers y hy hne; omega)⟩) ⟨j0, hj0, h0 j1 hj1 (by omega)⟩
        have es : z_sum c (fun j => Q j * -D j) = -(z_sum c (fun j => Q j * D j)) := by
          have := z_sum_mul c (-1) (fun j => Q j * D j)
          rw [Int.neg_mul, Int.one_mul] at this
          rw [← this]
          exact z_sum_congr (fun j _ => by rw [Int.mul_neg, Int.neg_mul, Int.one_mul])
        rw [es] at n5 n6
        rw [Int.neg_neg] at n6
        exact ⟨P1, P0, Q, ⟨n1.2, n1.1⟩, n2.symm, n3, n4, n6, n5, fun j j' hj hj' => by rw [Int.add_comm]; exact n7 j j' hj hj'⟩
theorem q_ls_int {c : Nat} {g : Nat → Nat → Int32} {q k : Nat} (h3 : c = 2 ∨ c = 3) (hg : z_rng g) (hq : q < q_nq c) (hk : k < 2 * c) : (q_ls c g q k).toInt = if q_mv c k (q_pl q) = q_td c q then (g (q_pl q) k).toInt - (g (q_pl q) (if q_pl q = 0 then c * q_ot c q + q_mv c k 1 else c * q_mv c k 0 + q_ot c q)).toInt else 0 := by
  unfold q_ls
  by_cases h : q_mv c k (q_pl q) = q_td c q
  · rw [if_pos h, if_pos h]
    have h6 : 2 * c ≤ 6 := by rcases h3 with e | e <;> omega
    have h1 := hg (q_pl q) (q_pl_lt q) k (by omega)
    have h2 := hg (q_pl q) (q_pl_lt q) _ (Nat.lt_of_lt_of_le (q_oc_lt h3 hq hk) h6)
    rw [i_sub (by omega) (by omega)]
  · rw [if_neg h, if_neg h]
    rfl
theorem z_sum_split (a b : Nat) (f : Nat → Int) : z_sum (a + b) f = z_sum a f + z_sum b (fun j => f (a + j)) := by
  induction b with
  | zero => simp [z_sum]
  | succ b ih =>
    rw [← Nat.add_assoc]
    have h1 : ∀ n (F : Nat → Int), z_sum (n + 1) F = z_sum n F + F n := fun _ _ => rfl
    rw [h1, h1, ih, Int.add_assoc]
theorem z_obeyed {c : Nat} {g : Nat → Nat → Int32} (h3 : c = 2 ∨ c = 3) (hg : z_rng g) : ∃ v, z_feas (2 * c) (2 * c + q_nq c) (z_row c g) v ∧ ∃ k, k < 2 * c ∧ v k ≠ 0 := by
  obtain ⟨P0, P1, Q, ⟨n1, n1'⟩, n2, n3, ⟨j, hj, n4⟩, n5, n6, n7⟩ := z_nash_ex h3 (fun j => (g 1 j).toInt) (fun j => (g 1 (c + j)).toInt) (fun j => (g 0 j).toInt - (g 0 (c + j)).toInt)
  generalize hv : (fun k => if k < c then P0 * Q k else P1 * Q (k - c)) = v
  have v0 : ∀ j, j < c → v j = P0 * Q j := fun j hj => by rw [← hv]; exact if_pos hj
  have v1 : ∀ j, j < c → v (c + j) = P1 * Q j := fun j hj => by
    rw [← hv]
    show (if c + j < c then _ else P1 * Q (c + j - c)) = _
    rw [if_neg (by omega), show c + j - c = j by omega]
  refine ⟨v, fun i hi => ?_, ?_⟩
  · by_cases h1 : i < 2 * c
    · rw [z_dot_unit (n := 2 * c) (A := z_row c g) (z_row_unit (t := 0)) h1]
      by_cases h2 : i < c
      · rw [v0 i h2]
        exact Int.mul_nonneg n1 (n3 _ h2)
      · have := v1 (i - c) (by omega)
        rw [show c + (i - c) = i by omega] at this
        rw [this]
        exact Int.mul_nonneg n1' (n3 _ (by omega))
    · have hq : i - 2 * c < q_nq c := by omega
      have er : ∀ k, k < 2 * c → z_row c g i k = if q_mv c k (q_pl (i - 2 * c)) = q_td c (i - 2 * c) then (g (q_pl (i - 2 * c)) k).toInt - (g (q_pl (i - 2 * c)) (if q_pl (i - 2 * c) = 0 then c * q_ot c (i - 2 * c) + q_mv c k 1 else c * q_mv c k 0 + q_ot c (i - 2 * c))).toInt else 0 := fun k hk => by
        unfold z_row
        rw [if_neg h1, q_ls_int h3 hg hq hk]
      by_cases h2 : i = 2 * c
      · have e0 : z_dot (2 * c) (z_row c g i) v = P0 * z_sum c (fun j => Q j * ((g 0 j).toInt - (g 0 (c + j)).toInt)) := by
          unfold z_dot
          rw [show 2 * c = c + c by omega, z_sum_split, ← z_sum_mul, z_sum_congr (n := c) (f := fun j => v (c + j) * z_row c g i (c + j)) (g := fun _ => 0) (fun j hj => by
            rw [er _ (by omega), if_neg (by rw [h2, Nat.sub_self]; unfold q_mv q_pl q_td; simp), Int.mul_zero]), z_sum_0, Int.add_zero]
          refine z_sum_congr (fun j hj => ?_)
          rw [er _ (by omega), if_pos (by rw [h2, Nat.sub_self]; unfold q_mv q_pl q_td; simp [hj]), v0 j hj, h2, Nat.sub_self, Int.mul_assoc]
          unfold q_pl q_ot q_mv
          simp [hj]
        rw [e0]
        exact n5
      · by_cases h4 : i = 2 * c + 1
        · have es : i - 2 * c = 1 := by omega
          have e0 : z_dot (2 * c) (z_row c g i) v = P1 * -(z_sum c (fun j => Q j * ((g 0 j).toInt - (g 0 (c + j)).toInt))) := by
            unfold z_dot
            rw [show 2 * c = c + c by omega, z_sum_split, z_sum_congr (n := c) (f := fun j => v j * z_row c g i j) (g := fun _ => 0) (fun j hj => by
              rw [er _ (by omega), if_neg (by rw [es]; unfold q_mv q_pl q_td; simp [hj]), Int.mul_zero]), z_sum_0, Int.zero_add, Int.mul_neg, ← Int.neg_mul, ← z_sum_mul]
            refine z_sum_congr (fun j hj => ?_)
            rw [er _ (by omega), if_pos (by rw [es]; unfold q_mv q_pl q_td; simp), v1 j hj, es, Int.mul_assoc]
            unfold q_pl q_ot q_mv
            simp
            rw [if_neg (by omega), Int.neg_mul, ← Int.mul_neg, ← Int.mul_neg]
            congr 2
            omega
          rw [e0]
          exact n6
        · obtain ⟨j', hj', hin⟩ := z_row_in (g := g) h3 (Nat.le_refl _) i hi h2 h4
          have hd : ∀ c, c = 2 ∨ c = 3 → ∀ q, q < q_nq c → 2 ≤ q → q_td c q < c ∧ q_ot c q < c ∧ q_pl q = 1 := by
            rintro c (rfl | rfl) <;> decide
          obtain ⟨d1, d2, d3⟩ := hd c h3 (i - 2 * c) hq (by omega)
          have hin2 : z_in c (z_row c g) i (q_td c (i - 2 * c)) := fun k hk k1 k2 => by
            rw [er k hk, if_neg]
            rw [d3]
            unfold q_mv
            rw [if_neg (by omega)]
            split <;> omega
          have m1 : q_mv c (q_td c (i - 2 * c)) 1 = q_td c (i - 2 * c) := by unfold q_mv; rw [if_neg (by omega), if_pos d1]
          have m2 : q_mv c (c + q_td c (i - 2 * c)) 1 = q_td c (i - 2 * c) := by unfold q_mv; rw [if_neg (by omega), if_neg (by omega)]; omega
          have m3 : q_mv c (q_td c (i - 2 * c)) 0 = 0 := by unfold q_mv; rw [if_pos rfl, if_pos d1]
          have m4 : q_mv c (c + q_td c (i - 2 * c)) 0 = 1 := by unfold q_mv; rw [if_pos rfl, if_neg (by omega)]
          rw [z_dot_in d1 hin2, v0 _ d1, v1 _ d1, er _ (by omega), er _ (by omega), d3, m1, m2, m3, m4, if_pos rfl, if_pos rfl, if_neg (show ¬ (1 : Nat) = 0 by omega), if_neg (show ¬ (1 : Nat) = 0 by omega), Nat.mul_zero, Nat.mul_one, Nat.zero_add]
          have := n7 (q_td c (i - 2 * c)) (q_ot c (i - 2 * c)) d1 d2
          rw [Int.mul_add] at this
          rw [Int.mul_comm P0, Int.mul_comm P1, Int.mul_assoc, Int.mul_assoc]
          exact this
  · rcases n2 with h | h
    · exact ⟨j, by omega, by rw [v0 j hj]; exact Int.mul_ne_zero h n4⟩
    · exact ⟨c + j, by omega, by rw [v1 j hj]; exact Int.mul_ne_zero h n4⟩
/-- so there are extreme ones -/
theorem z_some {c : Nat} {g : Nat → Nat → Int32} (h3 : c = 2 ∨ c = 3) (hg : z_rng g) : ∃ v, z_ext (2 * c) (2 * c + q_nq c) (z_row c g) v := by
  obtain ⟨v, f, hv⟩ := z_obeyed h3 hg
  refine z_gen (z_row_unit (c := c) (t := q_nq c) (g := g)) (P := fun x => (∃ k, k < 2 * c ∧ x k ≠ 0) → ∃ v, z_ext (2 * c) (2 * c + q_nq c) (z_row c g) v) ?_ ?_ ?_ ?_ ?_ ?_ _ v z_cnt f hv
  · intro x y e h ⟨k, hk, hn⟩
    exact h ⟨k, hk, by rw [e k hk]; exact hn⟩
  · intro ⟨k, hk, hn⟩
    exact absurd rfl hn
  · intro v hv _
    exact ⟨v, hv⟩
  · intro x y _ _ h1 h2 ⟨k, hk, hn⟩
    by_cases hx : x k = 0
    · exact h2 ⟨k, hk, fun z => hn (by show x k + y k = 0; rw [hx, z]; rfl)⟩
    · exact h1 ⟨k, hk, hx⟩
  · intro m x hm _ h ⟨k, hk, hn⟩
    exact h ⟨k, hk, fun z => hn (by show m * x k = 0; rw [z, Int.mul_zero])⟩
  · intro m x hm _ h ⟨k, hk, hn⟩
    exact h ⟨k, hk, Int.mul_ne_zero (by omega) hn⟩

