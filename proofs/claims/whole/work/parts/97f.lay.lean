/-! ===== the Model: all choices of rows, one after the other ===== -/
def vP (m n : Nat) (p : Nat → Nat) : Prop := (∀ r r', r < r' → r' < m → p r < p r') ∧ ∀ r, r < m → p r < n
def vL (m : Nat) (p q : Nat → Nat) : Prop := ∃ i, i < m ∧ (∀ j, j < i → p j = q j) ∧ p i < q i
theorem vP.gap {m n : Nat} {p : Nat → Nat} (v : vP m n p) : ∀ d i, i + d < m → p i + d ≤ p (i + d) := by
  intro d
  induction d with
  | zero => intro i _; exact Nat.le_refl _
  | succ d ih =>
    intro i hi
    have h1 := ih i (by omega)
    have h2 := v.1 (i + d) (i + (d + 1)) (by omega) hi
    omega
theorem vP.most {m n : Nat} {p : Nat → Nat} (v : vP m n p) {i : Nat} (hi : i < m) : p i + (m - 1 - i) ≤ n - 1 := by
  have h1 := v.gap (m - 1 - i) i (by omega)
  have h2 := v.2 (i + (m - 1 - i)) (by omega)
  omega
theorem vL.tri (m : Nat) (p q : Nat → Nat) : (∀ r, r < m → p r = q r) ∨ vL m p q ∨ vL m q p := by
  by_cases h : ∃ r, r < m ∧ p r ≠ q r
  · obtain ⟨r, h1, h2, h3⟩ := z_first m h
    have h4 : ∀ j, j < r → p j = q j := fun j hj => Classical.byContradiction (fun z => h3 j hj z)
    rcases (show p r < q r ∨ q r < p r by omega) with e | e
    · exact Or.inr (Or.inl ⟨r, h1, h4, e⟩)
    · exact Or.inr (Or.inr ⟨r, h1, fun j hj => (h4 j hj).symm, e⟩)
  · exact Or.inl (fun r hr => Classical.byContradiction (fun z => h ⟨r, hr, z⟩))
def z_c16 (m : Nat) (p : Nat → Nat) : Nat := match m with
  | 0 => 0
  | m + 1 => z_c16 m p * 16 + p m
theorem z_c16_lt {p : Nat → Nat} : ∀ m : Nat, (∀ r, r < m → p r < 16) → z_c16 m p < 16 ^ m := by
  intro m
  induction m with
  | zero => intro _; exact Nat.zero_lt_one
  | succ m ih =>
    intro h
    have h1 := ih (fun r hr => h r (by omega))
    have h2 := h m (by omega)
    rw [Nat.pow_succ]
    show z_c16 m p * 16 + p m < _
    omega
theorem z_c16_eq {p q : Nat → Nat} : ∀ m : Nat, (∀ r, r < m → p r = q r) → z_c16 m p = z_c16 m q := by
  intro m
  induction m with
  | zero => intro _; rfl
  | succ m ih =>
    intro h
    show z_c16 m p * 16 + p m = z_c16 m q * 16 + q m
    rw [ih (fun r hr => h r (by omega)), h m (by omega)]
theorem vL.code {p q : Nat → Nat} : ∀ m : Nat, (∀ r, r < m → p r < 16) → vL m p q → z_c16 m p < z_c16 m q := by
  intro m
  induction m with
  | zero => rintro _ ⟨i, hi, -⟩; omega
  | succ m ih =>
    rintro h ⟨i, hi, h1, h2⟩
    show z_c16 m p * 16 + p m < z_c16 m q * 16 + q m
    by_cases e : i = m
    · subst e
      rw [z_c16_eq i h1]
      omega
    · have h3 := ih (fun r hr => h r (by omega)) ⟨i, by omega, h1, h2⟩
      have h4 := h m (by omega)
      omega
/-- the next choice: the k-th rises, those behind it follow -/
def vN (p : Nat → Nat) (k : Nat) : Nat → Nat := fun j => if j < k then p j else p k + 1 + (j - k)
theorem vN.step {m n k : Nat} {p : Nat → Nat} (v : vP m n p) (hk : k < m) (hmax : ∀ j, k < j → j < m → p j = n - 1 - (m - 1 - j)) (hn : p k ≠ n - 1 - (m - 1 - k)) : vP m n (vN p k) ∧ vL m p (vN p k) ∧ ∀ q, vP m n q → vL m p q → (∀ r, r < m → q r = vN p k r) ∨ vL m (vN p k) q := by
  have hm := v.most hk
  have lo : ∀ j, j < k → vN p k j = p j := fun j hj => if_pos hj
  have hi : ∀ j, k ≤ j → vN p k j = p k + 1 + (j - k) := fun j hj => if_neg (by omega)
  refine ⟨⟨fun r r' h1 h2 => ?_, fun r hr => ?_⟩, ⟨k, hk, fun j hj => (lo j hj).symm, by rw [hi k (Nat.le_refl _)]; omega⟩, fun q vq hq => ?_⟩
  · by_cases e : r < k
    · rw [lo r e]
      by_cases e2 : r' < k
      · rw [lo r' e2]; exact v.1 r r' h1 h2
      · rw [hi r' (by omega)]
        have := v.1 r k e hk
        omega
    · rw [hi r (by omega), hi r' (by omega)]
      omega
  · by_cases e : r < k
    · rw [lo r e]; exact v.2 r hr
    · rw [hi r (by omega)]
      have := v.2 k hk
      omega
  · obtain ⟨i, hi', h1, h2⟩ := hq
    rcases (show i < k ∨ i = k ∨ k < i by omega) with e | e | e
    · exact Or.inr ⟨i, hi', fun j hj => by rw [lo j (by omega)]; exact h1 j hj, by rw [lo i e]; exact h2⟩
    · subst e
      rcases vL.tri m q (vN p i) with y | ⟨r, r1, r2, r3⟩ | y
      · exact Or.inl y
      · exfalso
        by_cases hr : r < i
        · rw [lo r hr, h1 r hr] at r3; omega
        · have := vq.gap (r - i) i (by omega)
          rw [hi r (by omega)] at r3
          rw [show i + (r - i) = r by omega] at this
          omega
      · exact Or.inr y
    · exfalso
      have := vq.most hi'
      have := hmax i e hi'
      omega
section lay
variable {h : AH} {A : QA}
/-- the choice alone -/
def mPf (h h1 : AH) : Prop := h1.1 = h.1 ∧ am_R h1 = am_R h ∧ (∀ b, b ≠ 27 → am_I h1 b = am_I h b) ∧ am_J h1 = am_J h
theorem mPf.I {h h1 : AH} {A : QA} (s : mPf h h1) (I : mI h A) : mI h1 A := I.row s.1 s.2.1 (s.2.2.1 21 (by omega)) I.2.1 I.c3 (s.2.2.1 22 (by omega)) (s.2.2.1 23 (by omega)) (s.2.2.1 24 (by omega)) (s.2.2.1 31 (by omega)) (by rw [s.2.2.1 20 (by omega)]) (by rw [s.2.2.1 20 (by omega)])
theorem mPf.fr {h h1 : AH} (s : mPf h h1) : mfr h h1 := ⟨s.1, s.2.1, fun b hb => s.2.2.1 b (by omega), fun b _ => by rw [s.2.2.2]⟩
theorem m_next {m : Nat} {p : Nat → Nat} (I : mI h A) (hm : m + 1 = 2 * A.1.1) (v : vP m (2 * A.1.1 + q_nq A.1.1) p) (hp : ∀ r, r < m → am_I h 27 r = nI (p r)) : ∃ h1 b, am_ev 123 0 [.ref 20, am_ph, am_ph, am_ph, am_ph] [] h = some (some (.int b), h1) ∧ mPf h h1 ∧ (b = 1 ∧ (∃ p', (∀ r, r < m → am_I h1 27 r = nI (p' r)) ∧ vP m (2 * A.1.1 + q_nq A.1.1) p' ∧ vL m p p' ∧ ∀ q, vP m (2 * A.1.1 + q_nq A.1.1) q → vL m p q → (∀ r, r < m → q r = p' r) ∨ vL m p' q) ∨ b = 0 ∧ ∀ q, vP m (2 * A.1.1 + q_nq A.1.1) q → ¬ vL m p q) := by
  have h3 := I.c3
  have h6 := I.c6
  have h8 := q_nq_le h3
  have mm := I.1
  generalize hn : 2 * A.1.1 + q_nq A.1.1 = n at v
  have hn14 : n ≤ 14 := by omega
  have hpr : ∀ r, r < m → p r < n := v.2
  -- the k-th rises
  have rise : ∀ k, k < m → (∀ j, k < j → j < m → p j = n - 1 - (m - 1 - j)) → p k ≠ n - 1 - (m - 1 - k) → ∃ h1, am_ev 123 45 [.ref 20, .int (nI (m - 1)), am_ph, .int (nI k), am_ph] [] h = some (some (.int 1), h1) ∧ mPf h h1 ∧ ∃ p', (∀ r, r < m → am_I h1 27 r = nI (p' r)) ∧ vP m n p' ∧ vL m p p' ∧ ∀ q, vP m n q → vL m p q → (∀ r, r < m → q r = p' r) ∨ vL m p' q := by
    intro k hk hmax hne
    have hs := vN.step v hk hmax hne
    have fill : ∀ d j, j + d = m → k < j → ∀ M : AH, mPf h M → (∀ r, r < j → am_I M 27 r = nI (vN p k r)) → ∃ h1, am_ev 123 66 [.ref 20, .int (nI (m - 1)), am_ph, am_ph, .int (nI j)] [] M = some (some (.int 1), h1) ∧ mPf h h1 ∧ ∀ r, r < m → am_I h1 27 r = nI (vN p k r) := by
      intro d
      induction d with
      | zero =>
        intro j hj hkj M s hM
        refine ⟨M, ?_, s, fun r hr => hM r (by omega)⟩
        rw [am_b123_66, if_pos (by rw [x_lt (by omega) (by omega)]; omega)]
      | succ d ih =>
        intro j hj hkj M s hM
        have mM : mL M := mm.of s.1 s.2.1
        have ev := hM (j - 1) (by omega)
        have e1 : vN p k (j - 1) = p k + 1 + (j - 1 - k) := if_neg (by omega)
        have e2 : vN p k j = p k + 1 + (j - k) := if_neg (by omega)
        have hpk := hpr k hk
        obtain ⟨h1, e3, r1⟩ := ih (j + 1) (by omega) (by omega) (am_sI M 27 j (nI (vN p k j))) ⟨s.1, s.2.1, fun b hb => by rw [am_sI_ne hb]; exact s.2.2.1 b hb, s.2.2.2⟩ (fun r hr => by
          rw [am_sI_I]
          by_cases y : r = j
          · rw [y, am_ud_eq]
          · rw [am_ud_ne y]; exact hM r (by omega))
        refine ⟨h1, ?_, r1⟩
        have hval : nI (vN p k (j - 1)) + nI 1 = nI (vN p k j) := by
          rw [nI_add, e1, e2]
          congr 1
          omega
        rw [am_b123_66, if_neg (by rw [x_lt (by omega) (by omega)]; omega), if_pos mM.k, mM.r12, x_oe, if_pos mM.k, x_oe, x_c1, x_sub (by omega), x_cl (by omega), if_pos (x_rdc mM.k12 mM.l12 (by omega) (by omega)), x_cl (by omega), if_pos (x_wrc mM.k12 mM.l12 (by omega) (by omega)), ev, hval, nI_add]
        exact e3
    have hpk := hpr k hk
    obtain ⟨h1, e1, s1, r1⟩ := fill (m - (k + 1)) (k + 1) (by omega) (by omega) (am_sI h 27 k (nI (p k + 1))) ⟨rfl, rfl, fun b hb => am_sI_ne hb, rfl⟩ (fun r hr => by
      rw [am_sI_I]
      by_cases y : r = k
      · rw [y, am_ud_eq]
        have : vN p k k = p k + 1 + (k - k) := if_neg (by omega)
        rw [this]
        congr 1
        omega
      · rw [am_ud_ne y, hp r (by omega)]
        have : vN p k r = p r := if_pos (by omega)
        rw [this])
    refine ⟨h1, ?_, s1, vN p k, r1, hs⟩
    rw [am_b123_45, if_neg (nI_pos (by omega)), if_pos mm.k, mm.r12, x_oe, x_cl (by omega), if_pos (x_rdc mm.k12 mm.l12 (by omega) (by omega)), if_pos (x_wrc mm.k12 mm.l12 (by omega) (by omega)), hp k hk, nI_1, nI_1]
    exact e1
  have find : ∀ k, k < m → (∀ j, k < j → j < m → p j = n - 1 - (m - 1 - j)) → ∃ h1 b, am_ev 123 21 [.ref 20, .int (nI (m - 1)), .int (nI (n - 1)), .int (nI k), am_ph] [] h = some (some (.int b), h1) ∧ mPf h h1 ∧ (b = 1 ∧ (∃ p', (∀ r, r < m → am_I h1 27 r = nI (p' r)) ∧ vP m n p' ∧ vL m p p' ∧ ∀ q, vP m n q → vL m p q → (∀ r, r < m → q r = p' r) ∨ vL m p' q) ∨ b = 0 ∧ ∀ q, vP m n q → ¬ vL m p q) := by
    intro k
    induction k with
    | zero =>
      intro hk hmax
      have e0 : (nI (n - 1) - (nI (m - 1) - nI 0)) = nI (n - 1 - (m - 1)) := by rw [x_sub (by omega), x_sub (by omega)]; rfl
      have hpk := hpr 0 hk
      rw [am_b123_21, if_neg (nI_pos (by omega)), if_pos mm.k, mm.r12, x_oe, x_cl (by omega), if_pos (x_rdc mm.k12 mm.l12 (by omega) (by omega)), hp 0 hk, e0]
      have hiff : (nI (p 0) = nI (n - 1 - (m - 1))) = (p 0 = n - 1 - (m - 1)) := propext (nI_eq (by omega) (by omega))
      simp only [hiff]
      by_cases h1 : p 0 = n - 1 - (m - 1)
      · rw [if_pos h1]
        have hneg : nI 0 + (-1 : Int32) < 0 := by decide
        refine ⟨h, 0, ?_, ⟨rfl, rfl, fun _ _ => rfl, rfl⟩, Or.inr ⟨rfl, fun q vq ⟨i, hi, _, h5⟩ => ?_⟩⟩
        · rw [am_b123_21, if_pos hneg, am_b123_45, if_pos hneg]
        · have := vq.most hi
          by_cases y : i = 0
          · rw [y] at h5 this; omega
          · have := hmax i (by omega) hi; omega
      · rw [if_neg h1]
        obtain ⟨h1', e1, s1, r1⟩ := rise 0 hk hmax (by omega)
        exact ⟨h1', 1, e1, s1, Or.inl ⟨rfl, r1⟩⟩
    | succ k ih =>
      intro hk hmax
      have e0 : (nI (n - 1) - (nI (m - 1) - nI (k + 1))) = nI (n - 1 - (m - 1 - (k + 1))) := by rw [x_sub (by omega), x_sub (by omega)]
      have hpk := hpr (k + 1) hk
      rw [am_b123_21, if_neg (nI_pos (by omega)), if_pos mm.k, mm.r12, x_oe, x_cl (by omega), if_pos (x_rdc mm.k12 mm.l12 (by omega) (by omega)), hp (k + 1) hk, e0]
      have hiff : (nI (p (k + 1)) = nI (n - 1 - (m - 1 - (k + 1)))) = (p (k + 1) = n - 1 - (m - 1 - (k + 1))) := propext (nI_eq (by omega) (by omega))
      simp only [hiff]
      by_cases h1 : p (k + 1) = n - 1 - (m - 1 - (k + 1))
      · rw [if_pos h1, x_m1, x_c1, x_sub (by omega), show k + 1 - 1 = k by omega]
        exact ih (by omega) (fun j h1' h2 => by
          by_cases y : j = k + 1
          · rw [y]; exact h1
          · exact hmax j (by omega) h2)
      · rw [if_neg h1]
        obtain ⟨h1', e1, s1, r1⟩ := rise (k + 1) hk hmax h1
        exact ⟨h1', 1, e1, s1, Or.inl ⟨rfl, r1⟩⟩
  have f0 := find (m - 1) (by omega) (fun j h1 h2 => by omega)
  rw [am_b123_0, if_pos mm.k, m_cells mm I.c, x_bI, if_pos mm.k, m_cells mm I.c, x_bI, if_pos mm.k, m_inequalities mm I.c h3, x_bI, x_c2, x_c1, x_sub (by omega), nI_add, x_sub (by omega), hn, show 2 * A.1.1 - 2 = m - 1 by omega]
  exact f0
end lay
