/-! ===== the class's State: copies, comparisons, a throw ===== -/
theorem am_sI_fr {h : AH} {b k : Nat} {v : Int32} {P : Nat → Prop} (hb : P b) : am_fr h (am_sI h b k v) P := am_fr_rI hb
theorem am_sI_I {h : AH} {b k : Nat} {v : Int32} : am_I (am_sI h b k v) b = am_ud (am_I h b) k v := am_ud_eq
theorem am_sI_ne {h : AH} {b k d : Nat} {v : Int32} (hd : d ≠ b) : am_I (am_sI h b k v) d = am_I h d := am_ud_ne hd
theorem am_rI_I {h : AH} {b : Nat} {f : Nat → Int32} : am_I (am_rI h b f) b = f := am_ud_eq
theorem am_rI_ne {h : AH} {b d : Nat} {f : Nat → Int32} (hd : d ≠ b) : am_I (am_rI h b f) d = am_I h d := am_ud_ne hd
theorem am_cpy_lt {f g : Nat → Int32} {n k : Nat} (hk : k < n) : am_cpy f g 0 0 n k = f k := by
  unfold am_cpy
  rw [if_pos ⟨Nat.zero_le _, by omega⟩]
  simp
theorem s_setGain {h : AH} {a p k : Nat} {s : QS} {v : Int32} (S : sV h a s) (hp : p < 2) (hk : k < 6) : ∃ h1, am_ev 48 0 [.ref a, .int (nI p), .int (nI k), .int v] [] h = some (none, h1) ∧ am_fr h h1 (sP a) ∧ sV h1 a (s.1, s.2.1, am_ud s.2.2.1 (6 * p + k) v, s.2.2.2.1, s.2.2.2.2) := by
  obtain ⟨s1, s2, s3, s4, s5⟩ := id S
  have f : am_fr h (am_sI h (a + 1) (6 * p + k) v) (sP a) := am_sI_fr ⟨by omega, by omega⟩
  refine ⟨am_sI h (a + 1) (6 * p + k) v, ?_, f, s1.fr f (by rw [am_sI_ne (by omega)]; exact s1.2.2.2.2.2.2.2.1) s1.c3, by rw [am_sI_ne (by omega)]; exact s2, fun j hj => ?_, fun j hj => by rw [am_sI_ne (by omega)]; exact s4 j hj, fun j hj => by rw [am_sI_ne (by omega)]; exact s5 j hj⟩
  · rw [am_b48_0, if_pos s1.1, s1.2.1, show (6 : Int32) = nI 6 from rfl, pk_mul, nI_add]
    simp only [am_oe]
    rw [s_setAmount s1.2.2.2.2.1.1 (by rw [s1.2.2.2.2.1.2]; omega) (by omega) (by rw [s1.2.2.2.2.1.2]; omega)]
    simp only [am_bV]
    rw [Nat.mul_comm]
  · rw [am_sI_I]
    dsimp only
    unfold am_ud
    split
    · rfl
    · exact s3 j hj
theorem s_copyFrom {h : AH} {a b c : Nat} {s : QS} (S : sS h a c) (T : sV h b s) (hab : a + 4 ≤ b ∨ b + 4 ≤ a) : ∃ h1, am_ev 42 0 [.ref a, .ref b] [] h = some (none, h1) ∧ am_fr h h1 (sP a) ∧ sV h1 a s := by
  obtain ⟨t1, t2, t3, t4, t5⟩ := id T
  obtain ⟨k1, k2, k3, k4, k5, k6, k7, k8, k9⟩ := id S
  obtain ⟨l1, l2, l3, l4, l5, l6, l7, l8, l9⟩ := id t1
  have z0 : Int32.toNatClampNeg (0 : Int32) = 0 := rfl
  have z12 : Int32.toNatClampNeg (12 : Int32) = 12 := rfl
  have z6 : Int32.toNatClampNeg (6 : Int32) = 6 := rfl
  generalize h1e : am_sI (am_sI h a 0 (am_I h b 0)) a 1 (am_I (am_sI h a 0 (am_I h b 0)) b 1) = h1
  have f1 : am_fr h h1 (sP a) := by rw [← h1e]; exact (am_sI_fr ⟨Nat.le_refl _, by omega⟩).tr (am_sI_fr ⟨Nat.le_refl _, by omega⟩)
  generalize h2e : am_rI h1 (a + 1) (am_cpy (am_I h1 (b + 1)) (am_I h1 (a + 1)) 0 0 12) = h2
  have f2 : am_fr h1 h2 (sP a) := by rw [← h2e]; exact am_fr_rI ⟨by omega, by omega⟩
  generalize h3e : am_rI h2 (a + 2) (am_cpy (am_I h2 (b + 2)) (am_I h2 (a + 2)) 0 0 6) = h3
  have f3 : am_fr h2 h3 (sP a) := by rw [← h3e]; exact am_fr_rI ⟨by omega, by omega⟩
  generalize h4e : am_rI h3 (a + 3) (am_cpy (am_I h3 (b + 3)) (am_I h3 (a + 3)) 0 0 6) = h4
  have f4 : am_fr h3 h4 (sP a) := by rw [← h4e]; exact am_fr_rI ⟨by omega, by omega⟩
  have g2 := f1.tr f2
  have g3 := g2.tr f3
  have g4 := g3.tr f4
  have nP : ∀ j, j < 4 → ¬ sP a (b + j) := fun j hj z => by unfold sP at z; omega
  have F : ∀ (x : AH) (A B : Nat) (K : AH → AR), am_kd x A = 2 → (if am_kd x A = 2 then K x else none) = K x := fun x A B K e => if_pos e
  refine ⟨h4, ?_, g4, ?_⟩
  · rw [am_b42_0, if_pos l1, if_pos k1]
    dsimp only
    rw [show am_kd (am_sI h a 0 (am_I h b 0)) b = 2 from l1, if_pos rfl, show am_kd (am_sI h a 0 (am_I h b 0)) a = 2 from k1, if_pos rfl, h1e]
    rw [f1.kd, f1.kd, if_pos l1, f1.2.1, l2]
    simp only [am_oe]
    rw [if_pos k1, k2]
    simp only [z0, z12, z6]
    rw [f1.kd, f1.kd, f1.ln, f1.ln, l5.1, l5.2, k5.1, k5.2, if_pos (by decide), h2e]
    rw [g2.kd, g2.kd, if_pos l1, g2.2.1, l3]
    simp only []
    rw [if_pos k1, k3]
    simp only []
    rw [g2.kd, g2.kd, g2.ln, g2.ln, l6.1, l6.2, k6.1, k6.2, if_pos (by decide), h3e]
    rw [g3.kd, g3.kd, if_pos l1, g3.2.1, l4]
    simp only []
    rw [if_pos k1, k4]
    simp only []
    rw [g3.kd, g3.kd, g3.ln, g3.ln, l7.1, l7.2, k7.1, k7.2, if_pos (by decide), h4e]
  · have ea : am_I h4 a = am_I h1 a := by rw [← h4e, am_rI_ne (by omega), ← h3e, am_rI_ne (by omega), ← h2e, am_rI_ne (by omega)]
    have ebl : am_I (am_sI h a 0 (am_I h b 0)) b = am_I h b := am_sI_ne (by omega)
    refine ⟨S.fr g4 ?_ t1.c3, ?_, fun k hk => ?_, fun k hk => ?_, fun k hk => ?_⟩
    · rw [ea, ← h1e, am_sI_I, am_ud_ne (by omega), am_sI_I, am_ud_eq]
      exact l8
    · rw [ea, ← h1e, am_sI_I, am_ud_eq, ebl]
      exact t2
    · rw [← h4e, am_rI_ne (by omega), ← h3e, am_rI_ne (by omega), ← h2e, am_rI_I, am_cpy_lt hk, f1.2.2.1 _ (nP 1 (by omega))]
      exact t3 k hk
    · rw [← h4e, am_rI_ne (by omega), ← h3e, am_rI_I, am_cpy_lt hk, g2.2.2.1 _ (nP 2 (by omega))]
      exact t4 k hk
    · rw [← h4e, am_rI_I, am_cpy_lt hk, g3.2.2.1 _ (nP 3 (by omega))]
      exact t5 k hk
theorem s_same12 {h : AH} {a c b : Nat} (S : sS h a c) (hb : am_kd h b = 5) (hl : am_ln h b = 12) : ∀ (d j : Nat), j + d = 12 → (∀ k, k < j → am_I h (a + 1) k = am_I h b k) → ∃ v : Int32, am_ev 43 12 [.ref a, am_ph, .ref b, .int (nI j)] [] h = some (some (.int v), h) ∧ ((v = 1 ∧ ∀ k, k < 12 → am_I h (a + 1) k = am_I h b k) ∨ (v = 0 ∧ ¬ ∀ k, k < 12 → am_I h (a + 1) k = am_I h b k)) := by
  intro d
  induction d with
  | zero =>
    intro j hj hall
    rw [am_b43_12, show (12 : Int32) = nI 12 from rfl]
    simp only [q_lt (show j < 2 ^ 31 by omega) (show 12 < 2 ^ 31 by omega)]
    rw [if_neg (by omega)]
    exact ⟨1, rfl, Or.inl ⟨rfl, fun k hk => hall k (by omega)⟩⟩
  | succ d ih =>
    intro j hj hall
    rw [am_b43_12, show (12 : Int32) = nI 12 from rfl]
    simp only [q_lt (show j < 2 ^ 31 by omega) (show 12 < 2 ^ 31 by omega)]
    rw [if_pos (by omega), if_pos S.1, S.2.1]
    simp only [am_oe]
    rw [s_amount S.2.2.2.2.1.1 (by rw [S.2.2.2.2.1.2]; omega) (by omega), S.2.2.2.2.1.2, if_pos (by omega)]
    simp only [am_bI]
    rw [s_amount hb (by rw [hl]; omega) (by omega), hl, if_pos (by omega)]
    simp only [nI_S]
    by_cases e : am_I h (a + 1) j = am_I h b j
    · rw [if_pos e]
      refine ih (j + 1) (by omega) (fun k hk => ?_)
      by_cases e2 : k = j
      · rw [e2]; exact e
      · exact hall k (by omega)
    · rw [if_neg e]
      exact ⟨0, rfl, Or.inr ⟨rfl, fun z => e (z j (by omega))⟩⟩
theorem s_isSameGame {h : AH} {a c b : Nat} {x : Int32} (S : sS h a c) (hb : am_kd h b = 5) (hl : am_ln h b = 12) : ∃ v : Int32, am_ev 43 0 [.ref a, .int x, .ref b, am_ph] [] h = some (some (.int v), h) ∧ ((v = 1 ∧ nI c = x ∧ ∀ k, k < 12 → am_I h (a + 1) k = am_I h b k) ∨ (v = 0 ∧ ¬ (nI c = x ∧ ∀ k, k < 12 → am_I h (a + 1) k = am_I h b k))) := by
  rw [am_b43_0, if_pos S.1, S.2.2.2.2.2.2.2.1]
  by_cases e : nI c = x
  · rw [if_pos e]
    obtain ⟨v, e1, e2⟩ := s_same12 S hb hl 12 0 (by omega) (fun k hk => absurd hk (Nat.not_lt_zero _))
    refine ⟨v, e1, ?_⟩
    rcases e2 with ⟨z1, z2⟩ | ⟨z1, z2⟩
    · exact Or.inl ⟨z1, e, z2⟩
    · exact Or.inr ⟨z1, fun z => z2 z.2⟩
  · rw [if_neg e]
    exact ⟨0, rfl, Or.inr ⟨rfl, fun z => e z.1⟩⟩
/-! a throw -/
/-- the next number that throws: chosen, so that nobody works it out by ones -/
theorem q_nextE : ∃ f : Int32 → Int32, ∀ x, f x = Int64.toInt32 ((((Int32.toInt64 x) * (1103515245 : Int64)) + (12345 : Int64)) - (((Int32.toInt64 x) * (1103515245 : Int64)) + (12345 : Int64)) / (2147483648 : Int64) * (2147483648 : Int64)) := ⟨_, fun _ => rfl⟩
noncomputable def q_next : Int32 → Int32 := Classical.choose q_nextE
theorem q_next_eq (x : Int32) : Int64.toInt32 ((((Int32.toInt64 x) * (1103515245 : Int64)) + (12345 : Int64)) - (((Int32.toInt64 x) * (1103515245 : Int64)) + (12345 : Int64)) / (2147483648 : Int64) * (2147483648 : Int64)) = q_next x := (Classical.choose_spec q_nextE x).symm
def q_tgt (x s : Int32) : Int32 := (x / (65536 : Int32)) - (x / (65536 : Int32)) / s * s
/-- the cell at which the sum of the weights up to it first is above t, or the last one -/
def q_fl (w : Nat → Int32) (t : Int32) : Nat → Nat → Nat
  | 0, k => k
  | d + 1, k => if t < q_sum (k + 1) w then k else q_fl w t d (k + 1)
theorem q_fl_le (w : Nat → Int32) (t : Int32) : ∀ (d k : Nat), q_fl w t d k ≤ k + d
  | 0, k => Nat.le_refl _
  | d + 1, k => by
    unfold q_fl
    split
    · omega
    · have := q_fl_le w t d (k + 1)
      omega
theorem s_throw58 {h : AH} {a c : Nat} {t : Int32} (S : sS h a c) : ∀ (d k : Nat), k + d + 1 = 2 * c → am_ev 59 58 [.ref a, am_ph, .int t, .int (nI k), .int (q_sum (k + 1) (am_I h (a + 2)))] [] h = am_ev 59 93 [.ref a, am_ph, am_ph, .int (nI (q_fl (am_I h (a + 2)) t d k)), am_ph] [] h := by
  have hc6 : 2 * c ≤ 6 := by rcases S.c3 with rfl | rfl <;> omega
  intro d
  induction d with
  | zero =>
    intro k hk
    rw [am_b59_58]
    unfold q_fl
    by_cases h1 : t < q_sum (k + 1) (am_I h (a + 2))
    · rw [if_pos h1]
    · rw [if_neg h1, if_pos S.1, s_cells S]
      simp only [am_bI]
      rw [show (1 : Int32) = nI 1 from rfl, pk_sub (by omega)]
      simp only [q_lt (show k < 2 ^ 31 by omega) (show 2 * c - 1 < 2 ^ 31 by omega)]
      rw [if_neg (by omega)]
  | succ d ih =>
    intro k hk
    rw [am_b59_58]
    unfold q_fl
    by_cases h1 : t < q_sum (k + 1) (am_I h (a + 2))
    · rw [if_pos h1, if_pos h1]
    · rw [if_neg h1, if_neg h1, if_pos S.1, s_cells S]
      simp only [am_bI]
      rw [show (1 : Int32) = nI 1 from rfl, pk_sub (by omega)]
      simp only [q_lt (show k < 2 ^ 31 by omega) (show 2 * c - 1 < 2 ^ 31 by omega)]
      rw [if_pos (by omega), if_pos S.1, S.2.2.1]
      simp only [am_oe]
      rw [nI_add, s_amount S.2.2.2.2.2.1.1 (by rw [S.2.2.2.2.2.1.2]; omega) (by omega), S.2.2.2.2.2.1.2, if_pos (by omega)]
      exact ih (k + 1) (by omega)
theorem s_throw {h : AH} {a : Nat} {s : QS} (S : sV h a s) (hp : 0 < q_sum 6 s.2.2.2.1) : ∃ h1, am_ev 59 0 [.ref a, am_ph, am_ph, am_ph, am_ph] [] h = some (some (.int (nI (q_fl s.2.2.2.1 (q_tgt (q_next s.2.1) (q_sum 6 s.2.2.2.1)) (2 * s.1 - 1) 0))), h1) ∧ am_fr h h1 (sP a) ∧ sV h1 a (s.1, q_next s.2.1, s.2.2.1, s.2.2.2.1, am_ud s.2.2.2.2 (q_fl s.2.2.2.1 (q_tgt (q_next s.2.1) (q_sum 6 s.2.2.2.1)) (2 * s.1 - 1) 0) (s.2.2.2.2 (q_fl s.2.2.2.1 (q_tgt (q_next s.2.1) (q_sum 6 s.2.2.2.1)) (2 * s.1 - 1) 0) + 1)) := by
  obtain ⟨c, x, g, w, f⟩ := s
  dsimp only at hp ⊢
  obtain ⟨s1, s2, s3, s4, s5⟩ := id S
  dsimp only at s1 s2 s3 s4 s5
  have hc6 : 2 * c ≤ 6 := by rcases s1.c3 with rfl | rfl <;> omega
  have hc4 : 4 ≤ 2 * c := by rcases s1.c3 with rfl | rfl <;> omega
  generalize h1e : am_sI h a 1 (q_next x) = h1
  have f1 : am_fr h h1 (sP a) := by rw [← h1e]; exact am_sI_fr ⟨Nat.le_refl _, by omega⟩
  have S1 : sS h1 a c := s1.fr f1 (by rw [← h1e, am_sI_I, am_ud_ne (by omega)]; exact s1.2.2.2.2.2.2.2.1) s1.c3
  have w1 : ∀ k, k < 6 → am_I h1 (a + 2) k = w k := fun k hk => by rw [← h1e, am_sI_ne (by omega)]; exact s4 k hk
  have hsum : ∀ n, n ≤ 6 → q_sum n (am_I h1 (a + 2)) = q_sum n w := fun n hn => q_sum_congr (fun k hk => w1 k (by omega))
  have hflc : ∀ (t : Int32) (d k : Nat), k + d < 6 → q_fl (am_I h1 (a + 2)) t d k = q_fl w t d k := by
    intro t d
    induction d with
    | zero => intro k hk; rfl
    | succ d ih =>
      intro k hk
      unfold q_fl
      rw [hsum (k + 1) (by omega), ih (k + 1) (by omega)]
  have hx1 : am_I h1 a 1 = q_next x := by rw [← h1e, am_sI_I, am_ud_eq]
  generalize hk : q_fl w (q_tgt (q_next x) (q_sum 6 w)) (2 * c - 1) 0 = kf
  have hkf : kf < 6 := by
    have := q_fl_le w (q_tgt (q_next x) (q_sum 6 w)) (2 * c - 1) 0
    omega
  have hf1 : ∀ k, k < 6 → am_I h1 (a + 3) k = f k := fun k hk => by rw [← h1e, am_sI_ne (by omega)]; exact s5 k hk
  refine ⟨am_sI h1 (a + 3) kf (f kf + 1), ?_, f1.tr (am_sI_fr ⟨by omega, by omega⟩), ?_⟩
  · rw [am_b59_0, if_pos s1.1, if_pos s1.1, s2]
    dsimp only
    rw [q_next_eq, h1e]
    rw [if_pos S1.1, S1.2.2.1]
    simp only [am_oe]
    rw [s_sumOf S1.2.2.2.2.2.1.1 S1.2.2.2.2.2.1.2 (by omega), hsum 6 (Nat.le_refl _)]
    simp only [am_bI]
    rw [if_pos hp, if_pos S1.1, if_neg (fun z => absurd hp (by rw [z]; decide)), if_pos S1.1, hx1, S1.2.2.1]
    simp only []
    rw [show (.int (0 : Int32) : Value) = .int (nI 0) from rfl, s_amount S1.2.2.2.2.2.1.1 (by rw [S1.2.2.2.2.2.1.2]; omega) (by omega), S1.2.2.2.2.2.1.2, if_pos (by omega)]
    simp only []
    have e := s_throw58 (t := q_tgt (q_next x) (q_sum 6 w)) S1 (2 * c - 1) 0 (by omega)
    rw [hflc _ _ _ (by omega), hk] at e
    have e0 : q_sum (0 + 1) (am_I h1 (a + 2)) = am_I h1 (a + 2) 0 := by simp [q_sum]
    rw [e0] at e
    unfold q_tgt at e
    rw [e, am_b59_93, if_pos S1.1, S1.2.2.2.1]
    simp only [am_oe]
    rw [if_pos S1.1, s_amount S1.2.2.2.2.2.2.1.1 (by rw [S1.2.2.2.2.2.2.1.2]; omega) (by omega), S1.2.2.2.2.2.2.1.2, if_pos hkf, hf1 kf hkf]
    simp only [am_bI]
    rw [s_setAmount S1.2.2.2.2.2.2.1.1 (by rw [S1.2.2.2.2.2.2.1.2]; omega) (by omega) (by rw [S1.2.2.2.2.2.2.1.2]; omega)]
    rfl
  · refine ⟨S1.fr (P := sP a) (am_sI_fr ⟨by omega, by omega⟩) (by rw [am_sI_ne (by omega)]; exact S1.2.2.2.2.2.2.2.1) s1.c3, by rw [am_sI_ne (by omega)]; exact hx1, fun k hk => ?_, fun k hk => ?_, fun k hk => ?_⟩
    · rw [am_sI_ne (by omega), ← h1e, am_sI_ne (by omega)]
      exact s3 k hk
    · rw [am_sI_ne (by omega)]
      exact w1 k hk
    · rw [am_sI_I]
      dsimp only
      unfold am_ud
      split
      · rfl
      · exact hf1 k hk

