/-! ===== the class's Extremes: slacks and sums ===== -/
theorem j_sum_congr {n : Nat} {f g : Nat → Int64} (h : ∀ k, k < n → f k = g k) : j_sum n f = j_sum n g := by
  induction n with
  | zero => rfl
  | succ n ih => rw [j_sum_s, j_sum_s, ih (fun k hk => h k (by omega)), h n (by omega)]
theorem j_sum_int {B : Int} {f : Nat → Int64} (hB : 0 ≤ B) : ∀ n : Nat, (n : Int) * B < 9223372036854775808 → (∀ k, k < n → -B ≤ (f k).toInt ∧ (f k).toInt ≤ B) → (j_sum n f).toInt = z_sum n (fun k => (f k).toInt) ∧ -((n : Int) * B) ≤ (j_sum n f).toInt ∧ (j_sum n f).toInt ≤ (n : Int) * B := by
  intro n
  induction n with
  | zero =>
    intro _ _
    show (0 : Int64).toInt = 0 ∧ _
    refine ⟨rfl, ?_, ?_⟩
    · show -((0 : Nat) * B) ≤ (0 : Int)
      simp
    · show (0 : Int) ≤ (0 : Nat) * B
      simp
  | succ n ih =>
    intro hn h
    have e : ((n + 1 : Nat) : Int) * B = n * B + B := by rw [Int.natCast_add, Int.add_mul]; simp
    rw [e] at hn ⊢
    obtain ⟨i1, i2, i3⟩ := ih (by omega) (fun k hk => h k (by omega))
    have hb := h n (by omega)
    have h1 : (j_sum (n + 1) f).toInt = (j_sum n f).toInt + (f n).toInt := by
      rw [j_sum_s]
      exact y_add (by omega) (by omega)
    have h2 : z_sum (n + 1) (fun k => (f k).toInt) = z_sum n (fun k => (f k).toInt) + (f n).toInt := rfl
    rw [h1, h2, i1]
    rw [i1] at i2 i3
    exact ⟨rfl, by omega, by omega⟩
/-- the value of a row on a vector of longs -/
theorem x_rowdot {c : Nat} {e : Nat → Int64} {l : Nat → Int32} (h6 : 2 * c ≤ 6) (h0 : ∀ k, k < 6 → 2 * c ≤ k → e k = 0) (he : ∀ k, k < 6 → 0 ≤ (e k).toInt ∧ (e k).toInt ≤ 136048896) (hl : ∀ k, k < 6 → -18 ≤ (l k).toInt ∧ (l k).toInt ≤ 18) : (j_sum 6 (fun k => e k * (l k).toInt64)).toInt = z_dot (2 * c) (fun k => (l k).toInt) (fun k => (e k).toInt) ∧ -14693280768 ≤ (j_sum 6 (fun k => e k * (l k).toInt64)).toInt ∧ (j_sum 6 (fun k => e k * (l k).toInt64)).toInt ≤ 14693280768 := by
  have hp : ∀ k, k < 6 → (e k * (l k).toInt64).toInt = (e k).toInt * (l k).toInt ∧ -2448880128 ≤ (e k).toInt * (l k).toInt ∧ (e k).toInt * (l k).toInt ≤ 2448880128 := fun k hk => by
    have h1 := he k hk
    have h2 := hl k hk
    have h3 := z_mulb h1.1 h1.2 h2.1 h2.2
    refine ⟨?_, by omega, by omega⟩
    rw [y_mul (by rw [x_l]; omega) (by rw [x_l]; omega), x_l]
  obtain ⟨j1, j2, j3⟩ := j_sum_int (B := 2448880128) (f := fun k => e k * (l k).toInt64) (by omega) 6 (by omega) (fun k hk => by rw [(hp k hk).1]; exact (hp k hk).2)
  refine ⟨?_, by omega, by omega⟩
  rw [j1, z_sum_congr (fun k hk => (hp k hk).1)]
  obtain ⟨r, hr⟩ : ∃ r, 6 = 2 * c + r := ⟨6 - 2 * c, by omega⟩
  rw [hr, z_sum_split, z_sum_congr (n := r) (g := fun _ => 0) (fun k hk => by
    rw [h0 (2 * c + k) (by omega) (by omega)]
    show (0 : Int) * _ = 0
    simp), z_sum_0, Int.add_zero]
  rfl
section xt4
variable {h : AH} {b : Nat}
/-- losses and slacks alone -/
def xR (a : Nat) : Prop := a = 11 ∨ a = 13
theorem xC.fr' {h1 : AH} {P : Nat → Prop} {N : Nat} {E : Nat → Nat → Int64} {τ : Nat → Nat} (X : xC h b N E τ) (f : am_fr h h1 P) (hp : ∀ a, P a → 11 ≤ a) : xC h1 b N E τ := by
  obtain ⟨m, x1, x2, x3, x4⟩ := X
  have hb := m.1
  refine ⟨m.fr f, by rw [f.2.2.1 6 (fun z => by have := hp _ z; omega)]; exact x1, x2, fun i hi k hk => ?_, fun i hi => ?_⟩
  · rw [f.2.2.2 (7 + b) (fun z => by have := hp _ z; omega)]; exact x3 i hi k hk
  · rw [f.2.2.1 (9 + b) (fun z => by have := hp _ z; omega)]; exact x4 i hi
theorem sS.fr' {h1 : AH} {P : Nat → Prop} {c : Nat} (S : sS h 2 c) (f : am_fr h h1 P) (hp : ∀ a, P a → 6 ≤ a) : sS h1 2 c := S.fr f (by rw [f.2.2.1 2 (fun z => by have := hp _ z; omega)]; exact S.2.2.2.2.2.2.2.1) S.c3
theorem x_losses {N c q : Nat} {g : Nat → Nat → Int32} {E : Nat → Nat → Int64} {τ : Nat → Nat} (hq : q < q_nq c) : ∀ (d j : Nat) (h : AH), j + d = 6 → xC h b N E τ → sS h 2 c → sG h 2 = g → (∀ k, k < j → am_I h 13 k = if k < 2 * c then q_ls c g q k else 0) → ∃ h1, am_ev 15 2 [.ref 6, .ref 2, .int (nI q), .int (nI j), am_ph, am_ph, am_ph] [] h = am_ev 15 42 [.ref 6, am_ph, am_ph, .int (0 : Int32), am_ph, am_ph, am_ph] [] h1 ∧ am_fr h h1 (fun a => a = 13) ∧ ∀ k, k < 6 → am_I h1 13 k = if k < 2 * c then q_ls c g q k else 0 := by
  intro d
  induction d with
  | zero =>
    intro j h hj X S hg hk
    refine ⟨h, ?_, am_fr.rf, fun k hk6 => hk k (by omega)⟩
    rw [am_b15_2, x_c6, if_neg (by rw [x_lt (by omega) (by omega)]; omega)]
  | succ d ih =>
    intro j h hj X S hg hk
    have m := X.1
    have h3 := S.c3
    have h6 : 2 * c ≤ 6 := by rcases h3 with e | e <;> omega
    have f : am_fr h (am_sI h 13 j (if j < 2 * c then q_ls c g q j else 0)) (fun a => a = 13) := am_sI_fr rfl
    obtain ⟨h1, e1, f1, k1⟩ := ih (j + 1) (am_sI h 13 j (if j < 2 * c then q_ls c g q j else 0)) (by omega) (X.fr' f (fun a z => by omega)) (S.fr' f (fun a z => by omega)) (by rw [← hg]; funext p k; unfold sG; rw [am_sI_ne (by omega)]) (fun k hk' => by
      rw [am_sI_I]
      by_cases e : k = j
      · rw [e, am_ud_eq]
      · rw [am_ud_ne e]; exact hk k (by omega))
    refine ⟨h1, ?_, f.tr f1, k1⟩
    rw [am_b15_2, x_c6, if_pos (by rw [x_lt (by omega) (by omega)]; omega), if_pos m.k, m.lo, x_oe, if_pos S.1, s_cells S, x_bI]
    by_cases hj2 : j < 2 * c
    · rw [if_pos hj2] at e1
      rw [if_pos (by rw [x_lt (by omega) (by omega)]; exact hj2), if_pos S.1, s_loss S hq hj2, x_bI, hg, s_setAmount m.k13 (by rw [m.l13]; omega) (by omega) (by rw [m.l13]; omega), x_bV, nI_1]
      exact e1
    · rw [if_neg hj2] at e1
      rw [if_neg (by rw [x_lt (by omega) (by omega)]; exact hj2), s_setAmount m.k13 (by rw [m.l13]; omega) (by omega) (by rw [m.l13]; omega), x_bV, nI_1]
      exact e1
theorem x_slack65 {N i : Nat} {E : Nat → Nat → Int64} {τ : Nat → Nat} {l : Nat → Int32} (X : xC h b N E τ) (hi : i < N) (hl : ∀ k, k < 6 → am_I h 13 k = l k) : ∀ (d j : Nat), j + d = 6 → am_ev 15 65 [.ref 6, am_ph, am_ph, .int (nI i), .long (j_sum j fun k => E i k * (l k).toInt64), am_ph, .int (nI j)] [] h = am_ev 15 42 [.ref 6, am_ph, am_ph, .int (nI (i + 1)), am_ph, am_ph, am_ph] [] (am_sJ h 11 i (j_sum 6 fun k => E i k * (l k).toInt64)) := by
  have m := X.1
  have hN := X.2.2.1
  intro d
  induction d with
  | zero =>
    intro j hj
    obtain rfl : j = 6 := by omega
    rw [am_b15_65, x_c6, if_neg (by rw [x_lt (by omega) (by omega)]; omega), if_pos m.k, m.sl, x_oe, x_cl (by omega), if_pos ⟨m.k11, fun z => z.elim (nI_pos (by omega)) (by rw [m.l11]; omega)⟩, nI_1]
  | succ d ih =>
    intro j hj
    have i' := ih (j + 1) (by omega)
    rw [j_sum_s, ← hl j (by omega)] at i'
    rw [am_b15_65, x_c6, if_pos (by rw [x_lt (by omega) (by omega)]; omega), if_pos m.k, x_weight X hi (by omega), x_bJ, if_pos m.k, m.lo, x_oe, s_amount m.k13 (by rw [m.l13]; omega) (by omega), if_pos (by rw [m.l13]; omega), x_bI, nI_1]
    exact i'
theorem x_slacks {N c q : Nat} {E : Nat → Nat → Int64} {τ : Nat → Nat} (X : xC h b N E τ) (S : sS h 2 c) (hq : q < q_nq c) : ∃ h1, am_ev 15 0 [.ref 6, .ref 2, .int (nI q), am_ph, am_ph, am_ph, am_ph] [] h = some (none, h1) ∧ am_fr h h1 xR ∧ ∀ i, i < N → am_J h1 11 i = j_sum 6 fun k => E i k * (if k < 2 * c then q_ls c (sG h 2) q k else 0).toInt64 := by
  have hN := X.2.2.1
  obtain ⟨h1, e1, f1, l1⟩ := x_losses hq 6 0 h (by omega) X S rfl (fun k hk => by omega)
  have X1 := X.fr' f1 (fun a z => by omega)
  generalize hl : (fun k => if k < 2 * c then q_ls c (sG h 2) q k else 0) = l at l1
  have hl' : ∀ k, (if k < 2 * c then q_ls c (sG h 2) q k else 0) = l k := fun k => by rw [← hl]
  have key : ∀ d i, i + d = N → ∀ M : AH, xC M b N E τ → (∀ k, k < 6 → am_I M 13 k = l k) → (∀ i', i' < i → am_J M 11 i' = j_sum 6 fun k => E i' k * (l k).toInt64) → ∃ h2, am_ev 15 42 [.ref 6, am_ph, am_ph, .int (nI i), am_ph, am_ph, am_ph] [] M = some (none, h2) ∧ am_fr M h2 (fun a => a = 11) ∧ ∀ i', i' < N → am_J h2 11 i' = j_sum 6 fun k => E i' k * (l k).toInt64 := by
    intro d
    induction d with
    | zero =>
      intro i hi M XM lM sM
      refine ⟨M, ?_, am_fr.rf, fun i' hi' => sM i' (by omega)⟩
      rw [am_b15_42, if_pos XM.1.k, XM.2.1, if_neg (by rw [x_lt (by omega) (by omega)]; omega)]
    | succ d ih =>
      intro i hi M XM lM sM
      have f : am_fr M (am_sJ M 11 i (j_sum 6 fun k => E i k * (l k).toInt64)) (fun a => a = 11) := am_fr_sJ rfl
      obtain ⟨h2, e2, f2, s2⟩ := ih (i + 1) (by omega) _ (XM.fr' f (fun a z => by omega)) lM (fun i' hi' => by
        rw [am_sJ_J]
        by_cases e : i' = i
        · rw [e, am_ud_eq]
        · rw [am_ud_ne e]; exact sM i' (by omega))
      refine ⟨h2, ?_, f.tr f2, s2⟩
      have e3 := x_slack65 XM (show i < N by omega) lM 6 0 (by omega)
      rw [nI_0] at e3
      rw [am_b15_42, if_pos XM.1.k, XM.2.1, if_pos (by rw [x_lt (by omega) (by omega)]; omega), if_pos XM.1.k, XM.1.sl, x_oe, if_pos (by rw [XM.1.k11]; omega), XM.1.l11, if_pos (by rw [x_len (by omega) (by omega)]; omega)]
      exact e3.trans e2
  obtain ⟨h2, e2, f2, s2⟩ := key N 0 (by omega) h1 X1 (fun k hk => by rw [l1 k hk, hl' k]) (fun i' hi' => by omega)
  rw [nI_0] at e1 e2
  refine ⟨h2, ?_, (f1.wk (fun a z => Or.inr z)).tr (f2.wk (fun a z => Or.inl z)), fun i hi => ?_⟩
  · rw [am_b15_0, e1, e2]
  · rw [s2 i hi]
    exact j_sum_congr (fun k _ => by rw [hl' k])
/-- the sums of the weights -/
theorem x_sumUp {N : Nat} {E : Nat → Nat → Int64} {τ : Nat → Nat} (X : xC h b N E τ) : ∃ h1, am_ev 24 0 [.ref 6, am_ph, am_ph, am_ph, am_ph] [] h = some (none, h1) ∧ am_fr h h1 (fun a => a = 12) ∧ ∀ i, i < N → am_J h1 12 i = j_sum 6 (E i) := by
  have hN := X.2.2.1
  have in1 : ∀ (M : AH) i, i < N → xC M b N E τ → ∀ d j, j + d = 6 → am_ev 24 24 [.ref 6, .int (nI i), .long (j_sum j (E i)), am_ph, .int (nI j)] [] M = am_ev 24 2 [.ref 6, .int (nI (i + 1)), am_ph, am_ph, am_ph] [] (am_sJ M 12 i (j_sum 6 (E i))) := by
    intro M i hi XM d
    have m := XM.1
    induction d with
    | zero =>
      intro j hj
      obtain rfl : j = 6 := by omega
      rw [am_b24_24, x_c6, if_neg (by rw [x_lt (by omega) (by omega)]; omega), if_pos m.k, m.su, x_oe, x_cl (by omega), if_pos ⟨m.k12, fun z => z.elim (nI_pos (by omega)) (by rw [m.l12]; omega)⟩, nI_1]
    | succ d ih =>
      intro j hj
      have i' := ih (j + 1) (by omega)
      rw [j_sum_s] at i'
      rw [am_b24_24, x_c6, if_pos (by rw [x_lt (by omega) (by omega)]; omega), if_pos m.k, x_weight XM hi (by omega), x_bJ, nI_1]
      exact i'
  have key : ∀ d i, i + d = N → ∀ M : AH, xC M b N E τ → (∀ i', i' < i → am_J M 12 i' = j_sum 6 (E i')) → ∃ h2, am_ev 24 2 [.ref 6, .int (nI i), am_ph, am_ph, am_ph] [] M = some (none, h2) ∧ am_fr M h2 (fun a => a = 12) ∧ ∀ i', i' < N → am_J h2 12 i' = j_sum 6 (E i') := by
    intro d
    induction d with
    | zero =>
      intro i hi M XM sM
      refine ⟨M, ?_, am_fr.rf, fun i' hi' => sM i' (by omega)⟩
      rw [am_b24_2, if_pos XM.1.k, XM.2.1, if_neg (by rw [x_lt (by omega) (by omega)]; omega)]
    | succ d ih =>
      intro i hi M XM sM
      have f : am_fr M (am_sJ M 12 i (j_sum 6 (E i))) (fun a => a = 12) := am_fr_sJ rfl
      obtain ⟨h2, e2, f2, s2⟩ := ih (i + 1) (by omega) _ (XM.fr' f (fun a z => by omega)) (fun i' hi' => by
        rw [am_sJ_J]
        by_cases e : i' = i
        · rw [e, am_ud_eq]
        · rw [am_ud_ne e]; exact sM i' (by omega))
      refine ⟨h2, ?_, f.tr f2, s2⟩
      have e3 := in1 M i (by omega) XM 6 0 (by omega)
      rw [nI_0] at e3
      rw [am_b24_2, if_pos XM.1.k, XM.2.1, if_pos (by rw [x_lt (by omega) (by omega)]; omega), if_pos XM.1.k, XM.1.su, x_oe, if_pos (by rw [XM.1.k12]; omega), XM.1.l12, if_pos (by rw [x_len (by omega) (by omega)]; omega)]
      exact e3.trans e2
  obtain ⟨h2, e2, f2, s2⟩ := key N 0 (by omega) h X (fun i' hi' => by omega)
  rw [nI_0] at e2
  exact ⟨h2, by rw [am_b24_0, e2], f2, s2⟩
end xt4
