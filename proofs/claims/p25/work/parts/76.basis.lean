theorem q_cnt_but {n l0 : Nat} {p : Nat → Prop} [DecidablePred p] (hl : l0 < n) (h : p l0) : q_cnt n (fun l => p l ∧ l ≠ l0) + 1 = q_cnt n p := by
  induction n with
  | zero => omega
  | succ n ih =>
    rw [q_cnt_s, q_cnt_s]
    by_cases e : l0 = n
    · subst e
      rw [if_neg (fun z => z.2 rfl), if_pos h]
      rw [q_cnt_congr (p := fun l => p l ∧ l ≠ l0) (p' := p) (fun k hk => ⟨fun z => z.1, fun z => ⟨z, by omega⟩⟩)]
    · have := ih (by omega)
      by_cases hn : p n
      · rw [if_pos ⟨hn, fun z => e z.symm⟩, if_pos hn]; omega
      · rw [if_neg (fun z => hn z.1), if_neg hn]; omega
theorem q_cnt_all {n : Nat} {p : Nat → Prop} [DecidablePred p] (h : ∀ i, i < n → p i) : q_cnt n p = n := by
  induction n with
  | zero => rfl
  | succ n ih => rw [q_cnt_s, if_pos (h n (by omega)), ih (fun i hi => h i (by omega))]
theorem q_cnt_none {n : Nat} {p : Nat → Prop} [DecidablePred p] (h : ∀ i, i < n → ¬ p i) : q_cnt n p = 0 := by
  induction n with
  | zero => rfl
  | succ n ih => rw [q_cnt_s, if_neg (h n (by omega)), ih (fun i hi => h i (by omega))]
theorem z_sum_swap (d e : Nat) (f : Nat → Nat → Int) : z_sum d (fun k => z_sum e (fun l => f k l)) = z_sum e (fun l => z_sum d (fun k => f k l)) := by
  induction d with
  | zero => simp [z_sum, z_sum_0]
  | succ d ih =>
    have h1 : ∀ F : Nat → Int, z_sum (d + 1) F = z_sum d F + F d := fun F => rfl
    rw [h1, ih, ← z_sum_add]
    rfl
/-- the value of a row on a sum of vectors -/
theorem z_dot_sum (d e : Nat) (a μ : Nat → Int) (B : Nat → Nat → Int) : z_dot d a (fun k => z_sum e (fun l => μ l * B l k)) = z_sum e (fun l => μ l * z_dot d a (B l)) := by
  unfold z_dot
  have h1 : ∀ k, (z_sum e (fun l => μ l * B l k)) * a k = z_sum e (fun l => μ l * (B l k * a k)) := fun k => by
    rw [Int.mul_comm, ← z_sum_mul]
    exact z_sum_congr (fun l _ => by ac_rfl)
  rw [z_sum_congr (fun k _ => h1 k), z_sum_swap]
  exact z_sum_congr (fun l _ => z_sum_mul d (μ l) (fun k => B l k * a k))
section basis
variable {d n : Nat} {A : Nat → Nat → Int}
/-- rows chosen so far, and vectors that span what they leave -/
def z_bas (d : Nat) (A : Nat → Nat → Int) (v : Nat → Int) (i s : Nat) (S : Nat → Nat) (al : Nat → Bool) (B : Nat → Nat → Int) : Prop := (∀ r, r < s → S r < i ∧ z_dot d (A (S r)) v = 0) ∧ (∀ r r', r < r' → r' < s → S r < S r') ∧ (∀ l, l < d → ∀ i', i' < i → z_dot d (A i') v = 0 → z_dot d (A i') (B l) = 0) ∧ (∀ w, (∀ r, r < s → z_dot d (A (S r)) w = 0) → ∃ (m : Int) (μ : Nat → Int), m ≠ 0 ∧ ∀ k, k < d → m * w k = z_sum d (fun l => μ l * B l k)) ∧ (∀ μ : Nat → Int, (∀ k, k < d → z_sum d (fun l => μ l * B l k) = 0) → ∀ l, l < d → al l = true → μ l = 0) ∧ (∀ l, l < d → al l = false → ∀ k, k < d → B l k = 0) ∧ q_cnt d (fun l => al l = true) + s = d
theorem z_bas0 (v : Nat → Int) : z_bas d A v 0 0 (fun _ => 0) (fun _ => true) (fun l k => if l = k then 1 else 0) := by
  have hs : ∀ (μ : Nat → Int) k, k < d → z_sum d (fun l => μ l * (if l = k then 1 else 0)) = μ k := fun μ k hk => by
    rw [z_sum_one hk (fun l _ hne => by rw [if_neg hne, Int.mul_zero]), if_pos rfl, Int.mul_one]
  refine ⟨fun r hr => by omega, fun r r' _ hr => by omega, fun l _ i' hi => by omega, fun w _ => ⟨1, w, by omega, fun k hk => by rw [hs w k hk, Int.one_mul]⟩, fun μ h l hl _ => by rw [← hs μ l hl]; exact h l hl, fun l _ h => by simp at h, ?_⟩
  rw [q_cnt_all (fun _ _ => rfl), Nat.add_zero]
theorem z_bas_s {v : Nat → Int} {i s : Nat} {S : Nat → Nat} {al : Nat → Bool} {B : Nat → Nat → Int} (h : z_bas d A v i s S al B) : ∃ s' S' al' B', z_bas d A v (i + 1) s' S' al' B' := by
  obtain ⟨b1, b2, b3, b4, b5, b6, b7⟩ := h
  by_cases hv : z_dot d (A i) v = 0
  · by_cases hl : ∃ l0, l0 < d ∧ z_dot d (A i) (B l0) ≠ 0
    · obtain ⟨l0, hl0, hc⟩ := hl
      generalize hcc : z_dot d (A i) (B l0) = c at hc
      have hal : al l0 = true := by
        cases ha : al l0 with
        | true => rfl
        | false => exact absurd (z_dot_0 (a := A i) (b6 l0 hl0 ha)) (by rw [hcc]; exact hc)
      refine ⟨s + 1, fun r => if r = s then i else S r, fun l => al l && decide (l ≠ l0), fun l k => c * B l k - z_dot d (A i) (B l) * B l0 k, fun r hr => ?_, fun r r' h1 h2 => ?_, fun l hl i' hi' hv' => ?_, fun w hw => ?_, fun μ hμ l hl ha => ?_, fun l hl ha k hk => ?_, ?_⟩
      · dsimp only
        by_cases e : r = s
        · rw [if_pos e]; exact ⟨by omega, hv⟩
        · rw [if_neg e]
          have := b1 r (by omega)
          exact ⟨by omega, this.2⟩
      · dsimp only
        rw [if_neg (show ¬ r = s by omega)]
        by_cases e : r' = s
        · rw [if_pos e]; exact (b1 r (by omega)).1
        · rw [if_neg e]; exact b2 r r' h1 (by omega)
      · rw [z_dot_sub]
        by_cases e : i' = i
        · rw [e, hcc, Int.mul_comm, Int.sub_self]
        · rw [b3 l hl i' (by omega) hv', b3 l0 hl0 i' (by omega) hv', Int.mul_zero, Int.mul_zero, Int.sub_zero]
      · have hw1 := hw s (by omega)
        dsimp only at hw1
        rw [if_pos rfl] at hw1
        obtain ⟨m, μ, hm, e⟩ := b4 w (fun r hr => by
          have := hw r (by omega)
          dsimp only at this
          rw [if_neg (show ¬ r = s by omega)] at this
          exact this)
        refine ⟨c * m, μ, Int.mul_ne_zero hc hm, fun k hk => ?_⟩
        have e1 : z_sum d (fun l => μ l * z_dot d (A i) (B l)) = 0 := by
          rw [← z_dot_sum, ← z_dot_congr e, z_dot_mul, hw1, Int.mul_zero]
        have e2 : z_sum d (fun l => μ l * (c * B l k - z_dot d (A i) (B l) * B l0 k)) = c * z_sum d (fun l => μ l * B l k) + -(B l0 k) * z_sum d (fun l => μ l * z_dot d (A i) (B l)) := by
          rw [← z_sum_mul, ← z_sum_mul, ← z_sum_add]
          refine z_sum_congr (fun l _ => ?_)
          rw [Int.mul_sub, Int.neg_mul]
          have h1 : μ l * (c * B l k) = c * (μ l * B l k) := by ac_rfl
          have h2 : μ l * (z_dot d (A i) (B l) * B l0 k) = B l0 k * (μ l * z_dot d (A i) (B l)) := by ac_rfl
          omega
        rw [e2, e1, ← e k hk, Int.mul_zero, Int.add_zero, Int.mul_assoc]
      · have ha2 : al l = true ∧ l ≠ l0 := by
          simp only [Bool.and_eq_true, decide_eq_true_eq] at ha
          exact ha
        have e3 := b5 (fun l' => if l' = l0 then c * μ l0 - z_sum d (fun l => μ l * z_dot d (A i) (B l)) else c * μ l') (fun k hk => by
          have e2 : z_sum d (fun l => μ l * (c * B l k - z_dot d (A i) (B l) * B l0 k)) = c * z_sum d (fun l => μ l * B l k) + -(B l0 k) * z_sum d (fun l => μ l * z_dot d (A i) (B l)) := by
            rw [← z_sum_mul, ← z_sum_mul, ← z_sum_add]
            refine z_sum_congr (fun l _ => ?_)
            rw [Int.mul_sub, Int.neg_mul]
            have h1 : μ l * (c * B l k) = c * (μ l * B l k) := by ac_rfl
            have h2 : μ l * (z_dot d (A i) (B l) * B l0 k) = B l0 k * (μ l * z_dot d (A i) (B l)) := by ac_rfl
            omega
          have e4 : z_sum d (fun l' => (if l' = l0 then c * μ l0 - z_sum d (fun l => μ l * z_dot d (A i) (B l)) else c * μ l') * B l' k) = c * z_sum d (fun l => μ l * B l k) + z_sum d (fun l' => if l' = l0 then -(B l0 k) * z_sum d (fun l => μ l * z_dot d (A i) (B l)) else 0) := by
            rw [← z_sum_mul, ← z_sum_add]
            refine z_sum_congr (fun l' _ => ?_)
            by_cases e : l' = l0
            · rw [if_pos e, if_pos e, e, Int.sub_mul, Int.neg_mul]
              have h1 : c * μ l0 * B l0 k = c * (μ l0 * B l0 k) := by ac_rfl
              have h2 : z_sum d (fun l => μ l * z_dot d (A i) (B l)) * B l0 k = B l0 k * z_sum d (fun l => μ l * z_dot d (A i) (B l)) := Int.mul_comm _ _
              omega
            · rw [if_neg e, if_neg e, Int.mul_assoc, Int.add_zero]
          rw [e4, z_sum_one hl0 (fun l' _ hne => if_neg hne), if_pos rfl, ← e2]
          exact hμ k hk) l hl ha2.1
        rw [if_neg ha2.2] at e3
        exact (Int.mul_eq_zero.1 e3).resolve_left hc
      · dsimp only
        by_cases e : l = l0
        · rw [e, hcc, Int.sub_self]
        · have ha2 : al l = false := by
            cases h : al l with
            | false => rfl
            | true =>
              exfalso
              simp only [h, Bool.true_and, decide_eq_false_iff_not] at ha
              exact ha e
          rw [b6 l hl ha2 k hk, z_dot_0 (b6 l hl ha2)]
          simp
      · have h1 := q_cnt_but (n := d) (p := fun l => al l = true) hl0 hal
        have h2 : q_cnt d (fun l => (al l && decide (l ≠ l0)) = true) = q_cnt d (fun l => al l = true ∧ l ≠ l0) := q_cnt_congr (fun l _ => by simp)
        rw [h2]
        omega
    · refine ⟨s, S, al, B, fun r hr => ⟨by have := (b1 r hr).1; omega, (b1 r hr).2⟩, b2, fun l hl' i' hi' hv' => ?_, b4, b5, b6, b7⟩
      by_cases e : i' = i
      · rw [e]
        exact Classical.byContradiction (fun z => hl ⟨l, hl', z⟩)
      · exact b3 l hl' i' (by omega) hv'
  · refine ⟨s, S, al, B, fun r hr => ⟨by have := (b1 r hr).1; omega, (b1 r hr).2⟩, b2, fun l hl i' hi' hv' => ?_, b4, b5, b6, b7⟩
    by_cases e : i' = i
    · rw [e] at hv'; exact absurd hv' hv
    · exact b3 l hl i' (by omega) hv'
theorem z_bas_n (v : Nat → Int) : ∀ i, ∃ s S al B, z_bas d A v i s S al B
  | 0 => ⟨_, _, _, _, z_bas0 v⟩
  | i + 1 => by
    obtain ⟨s, S, al, B, h⟩ := z_bas_n v i
    exact z_bas_s h
theorem z_pick {v : Nat → Int} (hp : ∃ k, k < d ∧ v k ≠ 0) (hk : z_ker d n A v) : ∃ S : Nat → Nat, (∀ r, r + 1 < d → S r < n ∧ z_dot d (A (S r)) v = 0) ∧ (∀ r r', r < r' → r' + 1 < d → S r < S r') ∧ ∀ w, (∀ r, r + 1 < d → z_dot d (A (S r)) w = 0) → ∃ a b : Int, a ≠ 0 ∧ ∀ k, k < d → a * w k = b * v k := by
  obtain ⟨s, S, al, B, b1, b2, b3, b4, b5, b6, b7⟩ := z_bas_n (d := d) (A := A) v n
  have hB : ∀ l, l < d → ∃ a b : Int, a ≠ 0 ∧ ∀ k, k < d → a * B l k = b * v k := fun l hl => hk (B l) (fun i hi h => b3 l hl i hi h)
  -- some vector is there
  have h1 : ∃ l, l < d ∧ al l = true := Classical.byContradiction (fun z => by
    obtain ⟨m, μ, hm, e⟩ := b4 v (fun r hr => (b1 r hr).2)
    obtain ⟨k, hk, hn⟩ := hp
    have e0 := e k hk
    rw [z_sum_congr (g := fun _ => 0) (fun l hl => by
      have : al l = false := by
        cases h : al l with
        | false => rfl
        | true => exact absurd ⟨l, hl, h⟩ z
      rw [b6 l hl this k hk, Int.mul_zero]), z_sum_0] at e0
    exact hn ((Int.mul_eq_zero.1 e0).resolve_left hm))
  obtain ⟨l0, hl0, ha0⟩ := h1
  -- and no other
  have h2 : ∀ l, l < d → al l = true → l = l0 := fun l hl ha => Classical.byContradiction (fun hne => by
    obtain ⟨a1, c1, ha1, e1⟩ := hB l0 hl0
    obtain ⟨a2, c2, ha2, e2⟩ := hB l hl
    have z0 : ∀ (x y : Int) k, k < d → z_sum d (fun l' => (if l' = l0 then x else if l' = l then y else 0) * B l' k) = x * B l0 k + y * B l k := fun x y k hk => by
      have e3 : z_sum d (fun l' => (if l' = l0 then x else if l' = l then y else 0) * B l' k) = z_sum d (fun l' => if l' = l0 then x * B l0 k else 0) + z_sum d (fun l' => if l' = l then y * B l k else 0) := by
        rw [← z_sum_add]
        refine z_sum_congr (fun l' _ => ?_)
        by_cases y1 : l' = l0
        · rw [if_pos y1, if_pos y1, if_neg (fun z => hne (z.symm.trans y1)), y1, Int.add_zero]
        · rw [if_neg y1, if_neg y1, Int.zero_add]
          by_cases y2 : l' = l
          · rw [if_pos y2, if_pos y2, y2]
          · rw [if_neg y2, if_neg y2, Int.zero_mul]
      rw [e3, z_sum_one hl0 (fun l' _ hne => if_neg hne), z_sum_one hl (fun l' _ hne => if_neg hne), if_pos rfl, if_pos rfl]
    have h3 := b5 (fun l' => if l' = l0 then c2 * a1 else if l' = l then -(c1 * a2) else 0) (fun k hk => by
      rw [z0 _ _ k hk]
      have p1 := e1 k hk
      have p2 := e2 k hk
      rw [Int.mul_assoc, p1, Int.neg_mul, Int.mul_assoc, p2]
      have : c2 * (c1 * v k) = c1 * (c2 * v k) := by ac_rfl
      omega) l0 hl0 ha0
    rw [if_pos rfl] at h3
    have hc2 : c2 = 0 := (Int.mul_eq_zero.1 h3).resolve_right ha1
    have hBl : ∀ k, k < d → B l k = 0 := fun k hk => by
      have := e2 k hk
      rw [hc2, Int.zero_mul] at this
      exact (Int.mul_eq_zero.1 this).resolve_left ha2
    have h4 := b5 (fun l' => if l' = l then 1 else 0) (fun k hk => by
      rw [z_sum_one hl (fun l' _ hne => by rw [if_neg hne, Int.zero_mul]), if_pos rfl, hBl k hk, Int.mul_zero]) l hl ha
    rw [if_pos rfl] at h4
    omega)
  have h3 : q_cnt d (fun l => al l = true) = 1 := by
    have := q_cnt_but (n := d) (p := fun l => al l = true) hl0 ha0
    rw [q_cnt_none (fun l hl z => z.2 (h2 l hl z.1))] at this
    omega
  refine ⟨S, fun r hr => b1 r (by omega), fun r r' h h' => b2 r r' h (by omega), fun w hw => ?_⟩
  obtain ⟨m, μ, hm, e⟩ := b4 w (fun r hr => hw r (by omega))
  obtain ⟨a, b, ha, eb⟩ := hB l0 hl0
  refine ⟨a * m, μ l0 * b, Int.mul_ne_zero ha hm, fun k hk => ?_⟩
  have e1 := e k hk
  rw [z_sum_one hl0 (fun l hl hne => by
    have : al l = false := by
      cases h : al l with
      | false => rfl
      | true => exact absurd (h2 l hl h) hne
    rw [b6 l hl this k hk, Int.mul_zero])] at e1
  rw [Int.mul_assoc, e1, Int.mul_assoc, ← eb k hk]
  ac_rfl
end basis
