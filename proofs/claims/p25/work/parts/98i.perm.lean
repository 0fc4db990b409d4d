/-! ===== moves by other names: sums over places that are exchanged ===== -/
def gs {α : Type} (add : α → α → α) (z : α) (n : Nat) (f : Nat → α) : α := match n with
  | 0 => z
  | n + 1 => add (gs add z n f) (f n)
section gs
variable {α : Type} {add : α → α → α} {z : α}
theorem gs_congr {n : Nat} {f g : Nat → α} (h : ∀ k, k < n → f k = g k) : gs add z n f = gs add z n g := by
  induction n with
  | zero => rfl
  | succ n ih =>
    unfold gs
    rw [ih (fun k hk => h k (by omega)), h n (by omega)]
theorem gs_ud (hc : ∀ a b, add a b = add b a) (ha : ∀ a b c, add (add a b) c = add a (add b c)) {f : Nat → α} {k : Nat} {v : α} : ∀ {n : Nat}, k < n → add (gs add z n (am_ud f k v)) (f k) = add (gs add z n f) v := by
  intro n
  have sw : ∀ a b c, add (add a b) c = add (add a c) b := fun a b c => by rw [ha, hc b c, ← ha]
  induction n with
  | zero => intro h; omega
  | succ n ih =>
    intro h
    unfold gs
    by_cases e : k = n
    · subst e
      rw [am_ud_eq, gs_congr (g := f) (fun j hj => am_ud_ne (by omega))]
      exact sw _ _ _
    · rw [am_ud_ne (fun z => e z.symm), sw, ih (by omega)]
      exact sw _ _ _
theorem gs_perm (hc : ∀ a b, add a b = add b a) (ha : ∀ a b c, add (add a b) c = add a (add b c)) {f : Nat → α} : ∀ (n : Nat) (π : Nat → Nat), (∀ k, k < n → π k < n) → (∀ i j, i < j → j < n → π i ≠ π j) → gs add z n (fun k => f (π k)) = gs add z n f := by
  intro n
  induction n with
  | zero => intro π _ _; rfl
  | succ n ih =>
    intro π hm hi
    by_cases e : π n = n
    · unfold gs
      rw [ih π (fun k hk => by
        have h1 := hm k (by omega)
        have h2 := hi k n hk (by omega)
        omega) (fun i j hij hj => hi i j hij (by omega)), e]
    · have hk : ∃ k0, k0 < n ∧ π k0 = n := Classical.byContradiction (fun hn => by
        have hne : ∀ k, k < n → π k ≠ n := fun k hk e => hn ⟨k, hk, e⟩
        have h1 := z_php n (n + 1) π (fun i hi' => by
          have h2 := hm i hi'
          by_cases e3 : i = n
          · rw [e3] at h2 ⊢; omega
          · have := hne i (by omega); omega) hi
        omega)
      obtain ⟨k0, hk0, ek⟩ := hk
      have hmn := hm n (by omega)
      have h1 := ih (am_ud π k0 (π n)) (fun k hk => by
        by_cases e2 : k = k0
        · rw [e2, am_ud_eq]; omega
        · rw [am_ud_ne e2]
          have h2 := hm k (by omega)
          have h3 : π k ≠ n := fun z => by
            rcases Nat.lt_or_gt_of_ne e2 with q | q
            · exact hi k k0 q (by omega) (z.trans ek.symm)
            · exact hi k0 k q (by omega) (ek.trans z.symm)
          omega) (fun i j hij hj => by
        by_cases ei : i = k0
        · rw [ei, am_ud_eq, am_ud_ne (by omega)]
          exact fun z => hi j n hj (by omega) z.symm
        · by_cases ej : j = k0
          · rw [ej, am_ud_eq, am_ud_ne (by omega)]
            exact hi i n (by omega) (by omega)
          · rw [am_ud_ne ei, am_ud_ne ej]
            exact hi i j hij (by omega))
      have h2 := gs_ud (z := z) hc ha (f := fun k => f (π k)) (k := k0) (v := f (π n)) (n := n) hk0
      have h3 : gs add z n (fun k => f (am_ud π k0 (π n) k)) = gs add z n (am_ud (fun k => f (π k)) k0 (f (π n))) := gs_congr (fun k hk => by
        by_cases e2 : k = k0
        · rw [e2, am_ud_eq, am_ud_eq]
        · rw [am_ud_ne e2, am_ud_ne e2])
      rw [← h3, h1, ek] at h2
      unfold gs
      exact h2.symm
end gs
theorem gs_q (n : Nat) (f : Nat → Int32) : q_sum n f = gs (fun a b => a + b) 0 n f := by
  induction n with
  | zero => rfl
  | succ n ih => unfold q_sum gs; rw [ih]
theorem gs_j (n : Nat) (f : Nat → Int64) : j_sum n f = gs (fun a b => a + b) 0 n f := by
  induction n with
  | zero => rfl
  | succ n ih => unfold j_sum gs; rw [ih]
theorem gs_z (n : Nat) (f : Nat → Int) : z_sum n f = gs (fun a b => a + b) 0 n f := by
  induction n with
  | zero => rfl
  | succ n ih => unfold z_sum gs; rw [ih]
theorem gs_c (n : Nat) (p : Nat → Prop) [DecidablePred p] : q_cnt n p = gs (fun a b => a + b) 0 n (fun k => if p k then 1 else 0) := by
  induction n with
  | zero => rfl
  | succ n ih =>
    rw [q_cnt_s]
    unfold gs
    rw [← ih]
    by_cases h : p n
    · rw [if_pos h, if_pos h]
    · rw [if_neg h, if_neg h]
      rfl
section perm
variable {n : Nat} {π π' : Nat → Nat}
theorem w_inj (h : ∀ k, k < n → π k < n ∧ π' (π k) = k) : ∀ i j, i < j → j < n → π i ≠ π j := fun i j hij hj e => by
  have h1 := (h i (by omega)).2
  have h2 := (h j hj).2
  rw [e] at h1
  omega
theorem q_sum_perm (h : ∀ k, k < n → π k < n ∧ π' (π k) = k) (f : Nat → Int32) : q_sum n (fun k => f (π k)) = q_sum n f := by
  rw [gs_q, gs_q]
  exact gs_perm (fun a b => Int32.add_comm a b) (fun a b c => Int32.add_assoc a b c) n π (fun k hk => (h k hk).1) (w_inj h)
theorem j_sum_perm (h : ∀ k, k < n → π k < n ∧ π' (π k) = k) (f : Nat → Int64) : j_sum n (fun k => f (π k)) = j_sum n f := by
  rw [gs_j, gs_j]
  exact gs_perm (fun a b => Int64.add_comm a b) (fun a b c => Int64.add_assoc a b c) n π (fun k hk => (h k hk).1) (w_inj h)
theorem z_sum_perm (h : ∀ k, k < n → π k < n ∧ π' (π k) = k) (f : Nat → Int) : z_sum n (fun k => f (π k)) = z_sum n f := by
  rw [gs_z, gs_z]
  exact gs_perm (fun a b => Int.add_comm a b) (fun a b c => Int.add_assoc a b c) n π (fun k hk => (h k hk).1) (w_inj h)
theorem q_cnt_perm (h : ∀ k, k < n → π k < n ∧ π' (π k) = k) (p : Nat → Prop) [DecidablePred p] : q_cnt n (fun k => p (π k)) = q_cnt n p := by
  rw [gs_c, gs_c]
  exact gs_perm (f := fun k => if p k then 1 else 0) (fun a b => Nat.add_comm a b) (fun a b c => Nat.add_assoc a b c) n π (fun k hk => (h k hk).1) (w_inj h)
end perm
/-- two games of c columns, the one the other by other names: of cells π, of inequalities σ -/
def wG (c : Nat) (g g' : Nat → Nat → Int32) (π π' σ σ' : Nat → Nat) : Prop :=
  (∀ k, k < 2 * c → π k < 2 * c ∧ π' (π k) = k) ∧ (∀ k, k < 2 * c → π' k < 2 * c ∧ π (π' k) = k) ∧ (∀ q, q < q_nq c → σ q < q_nq c ∧ σ' (σ q) = q) ∧ (∀ q, q < q_nq c → σ' q < q_nq c ∧ σ (σ' q) = q) ∧ (∀ q, q < q_nq c → ∀ k, k < 2 * c → q_ls c g' (σ q) (π k) = q_ls c g q k) ∧ ∀ p, p < 2 → ∀ k, k < 2 * c → g' p (π k) = g p k
section wg
variable {c : Nat} {g g' : Nat → Nat → Int32} {π π' σ σ' : Nat → Nat}
theorem wG.symm (G : wG c g g' π π' σ σ') : wG c g' g π' π σ' σ := by
  obtain ⟨a1, a2, a3, a4, a5, a6⟩ := G
  refine ⟨a2, a1, a4, a3, fun q hq k hk => ?_, fun p hp k hk => ?_⟩
  · rw [← a5 _ (a4 q hq).1 _ (a2 k hk).1, (a4 q hq).2, (a2 k hk).2]
  · rw [← a6 p hp _ (a2 k hk).1, (a2 k hk).2]
/-- the places of rows -/
def w_i (c : Nat) (π σ : Nat → Nat) (i : Nat) : Nat := if i < 2 * c then π i else 2 * c + σ (i - 2 * c)
theorem wG.i (G : wG c g g' π π' σ σ') {i : Nat} (hi : i < 2 * c + q_nq c) : w_i c π σ i < 2 * c + q_nq c ∧ w_i c π' σ' (w_i c π σ i) = i := by
  unfold w_i
  by_cases h : i < 2 * c
  · have := G.1 i h
    rw [if_pos h, if_pos this.1]
    exact ⟨by omega, this.2⟩
  · have := G.2.2.1 (i - 2 * c) (by omega)
    rw [if_neg h, if_neg (by omega), show 2 * c + σ (i - 2 * c) - 2 * c = σ (i - 2 * c) by omega, this.2]
    exact ⟨by omega, by omega⟩
theorem wG.row (G : wG c g g' π π' σ σ') {i k : Nat} (hi : i < 2 * c + q_nq c) (hk : k < 2 * c) : z_row c g' (w_i c π σ i) (π k) = z_row c g i k := by
  unfold z_row w_i
  by_cases h : i < 2 * c
  · have h1 := G.1 i h
    have h2 := G.1 k hk
    rw [if_pos h, if_pos h1.1, if_pos h]
    by_cases e : i = k
    · rw [if_pos (by rw [e]), if_pos e]
    · rw [if_neg (fun z => e (by rw [← h1.2, ← h2.2, z])), if_neg e]
  · have h1 := G.2.2.1 (i - 2 * c) (by omega)
    rw [if_neg h, if_neg (by omega), if_neg h, show 2 * c + σ (i - 2 * c) - 2 * c = σ (i - 2 * c) by omega, G.2.2.2.2.1 _ (by omega) k hk]
theorem wG.dot (G : wG c g g' π π' σ σ') {i : Nat} (hi : i < 2 * c + q_nq c) (w : Nat → Int) : z_dot (2 * c) (z_row c g' (w_i c π σ i)) w = z_dot (2 * c) (z_row c g i) (fun k => w (π k)) := by
  unfold z_dot
  rw [← z_sum_perm G.1 (fun k => w k * z_row c g' (w_i c π σ i) k)]
  exact z_sum_congr (fun k hk => by rw [G.row hi hk])
theorem wG.ext (G : wG c g g' π π' σ σ') {v : Nat → Int} (x : z_ext (2 * c) (2 * c + q_nq c) (z_row c g) v) : z_ext (2 * c) (2 * c + q_nq c) (z_row c g') (fun k => v (π' k)) := by
  obtain ⟨f, ⟨⟨k0, hk0, hv⟩, pr⟩, ke⟩ := x
  have e1 : ∀ {i}, i < 2 * c + q_nq c → z_dot (2 * c) (z_row c g' (w_i c π σ i)) (fun k => v (π' k)) = z_dot (2 * c) (z_row c g i) v := fun {i} hi => by
    rw [G.dot hi]
    exact z_dot_congr (fun k hk => by rw [(G.1 k hk).2])
  have back : ∀ {i}, i < 2 * c + q_nq c → w_i c π σ (w_i c π' σ' i) = i := fun {i} hi => (G.symm.i hi).2
  refine ⟨fun i hi => ?_, ⟨⟨π k0, (G.1 k0 hk0).1, by show v (π' (π k0)) ≠ 0; rw [(G.1 k0 hk0).2]; exact hv⟩, fun p hp => pr p (fun k hk => ?_)⟩, fun w hw => ?_⟩
  · rw [← back hi, e1 (G.symm.i hi).1]
    exact f _ (G.symm.i hi).1
  · have : p ∣ v (π' (π k)) := hp (π k) (G.1 k hk).1
    rw [(G.1 k hk).2] at this
    exact this
  · obtain ⟨a, b, ha, h⟩ := ke (fun k => w (π k)) (fun i hi e => by
      rw [← G.dot hi]
      exact hw _ (G.i hi).1 (by rw [e1 hi]; exact e))
    refine ⟨a, b, ha, fun k hk => ?_⟩
    have : a * w (π (π' k)) = b * v (π' k) := h (π' k) (G.2.1 k hk).1
    rw [(G.2.1 k hk).2] at this
    exact this
end wg
