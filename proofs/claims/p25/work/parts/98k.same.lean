/-! ===== extreme dice by other names ===== -/
section same
variable {c : Nat} {g g' : Nat → Nat → Int32} {π π' σ σ' : Nat → Nat} {N N' : Nat} {E E' : Nat → Nat → Int64}
theorem z_list.ne {c : Nat} {g : Nat → Nat → Int32} {N : Nat} {E : Nat → Nat → Int64} (L : z_list c g (N, E)) {i j : Nat} (hi : i < N) (hj : j < N) (e : ∀ k, k < 2 * c → E i k = E j k) : i = j := by
  rcases Nat.lt_trichotomy i j with h | h | h
  · exact absurd (L.2.2.2 i j h hj) (fun z => z.irr (fun k hk => by show (E i k).toInt = (E j k).toInt; rw [e k hk]))
  · exact h
  · exact absurd (L.2.2.2 j i h hi) (fun z => z.irr (fun k hk => by show (E j k).toInt = (E i k).toInt; rw [e k hk]))
theorem wG.to (G : wG c g g' π π' σ σ') (L : z_list c g (N, E)) (L' : z_list c g' (N', E')) {i : Nat} (hi : i < N) : ∃ j, j < N' ∧ ∀ k, k < 2 * c → E' j (π k) = E i k := by
  obtain ⟨j, hj, e⟩ := L'.2.2.1 _ (G.ext (L.2.1 i hi).1)
  refine ⟨j, hj, fun k hk => ?_⟩
  have := e (π k) (G.1 k hk).1
  dsimp only at this
  rw [(G.1 k hk).2] at this
  exact Int64.toInt_inj.1 this
theorem wG.le (G : wG c g g' π π' σ σ') (L : z_list c g (N, E)) (L' : z_list c g' (N', E')) : N ≤ N' := by
  have ex : ∀ i, ∃ j, i < N → j < N' ∧ ∀ k, k < 2 * c → E' j (π k) = E i k := fun i => by
    by_cases hi : i < N
    · obtain ⟨j, h⟩ := G.to L L' hi
      exact ⟨j, fun _ => h⟩
    · exact ⟨0, fun z => absurd z hi⟩
  refine z_php N' N (fun i => Classical.choose (ex i)) (fun i hi => (Classical.choose_spec (ex i) hi).1) (fun i j hij hj e => ?_)
  have h1 := (Classical.choose_spec (ex i) (by omega)).2
  have h2 := (Classical.choose_spec (ex j) hj).2
  have e : Classical.choose (ex i) = Classical.choose (ex j) := e
  have := L.ne (by omega : i < N) hj (fun k hk => by rw [← h1 k hk, ← h2 k hk, e])
  omega
theorem wG.many (G : wG c g g' π π' σ σ') (L : z_list c g (N, E)) (L' : z_list c g' (N', E')) : N' = N := Nat.le_antisymm (G.symm.le L' L) (G.le L L')
/-- sums over all six places -/
theorem j_sum_2c {e : Nat → Int64} (h3 : c = 2 ∨ c = 3) (h0 : ∀ k, 2 * c ≤ k → e k = 0) : j_sum 6 e = j_sum (2 * c) e := by
  rcases h3 with rfl | rfl
  · show j_sum 4 e + e 4 + e 5 = j_sum 4 e
    rw [h0 4 (by omega), h0 5 (by omega), Int64.add_zero, Int64.add_zero]
  · rfl
theorem wG.sum6 (G : wG c g g' π π' σ σ') (h3 : c = 2 ∨ c = 3) {e e' : Nat → Int64} (h0 : ∀ k, 2 * c ≤ k → e k = 0) (h0' : ∀ k, 2 * c ≤ k → e' k = 0) (he : ∀ k, k < 2 * c → e' (π k) = e k) : j_sum 6 e' = j_sum 6 e := by
  rw [j_sum_2c h3 h0, j_sum_2c h3 h0', ← j_sum_perm G.1 e']
  exact j_sum_congr he
end same
section ws2
variable {y : Nat} {s t : QS}
theorem wS.many (S : wS y s t) (hy : y < 12) (h3 : s.1 = 2 ∨ s.1 = 3) (L : z_list s.1 (q_g s) (q_N s, q_E s)) (L' : z_list t.1 (q_g t) (q_N t, q_E t)) : q_N t = q_N s := by
  rw [S.1] at L'
  exact (S.G hy h3).many L L'
/-- each extreme dice of the one is one of the other -/
theorem wS.to (S : wS y s t) (hy : y < 12) (h3 : s.1 = 2 ∨ s.1 = 3) (L : z_list s.1 (q_g s) (q_N s, q_E s)) (L' : z_list t.1 (q_g t) (q_N t, q_E t)) {i : Nat} (hi : i < q_N s) : ∃ j, j < q_N t ∧ (∀ k, k < 2 * s.1 → q_E t j (w_k y s.1 k) = q_E s i k) ∧ f_sumE t j = f_sumE s i ∧ ∀ p, p < 3 → f_pts t j p = f_pts s i p := by
  have G := S.G hy h3
  have L2 := L'
  rw [S.1] at L2
  obtain ⟨j, hj, e⟩ := G.to L L2 hi
  refine ⟨j, hj, e, G.sum6 h3 (L.2.1 i hi).2 (L2.2.1 j hj).2 e, fun p hp => ?_⟩
  unfold f_pts
  rw [S.1, ← j_sum_perm G.1 (fun k => q_E t j k * (q_gb (q_g t) p k).toInt64)]
  exact j_sum_congr (fun k hk => by rw [e k hk, S.gb hp hk])
theorem wS.from_ (S : wS y s t) (hy : y < 12) (h3 : s.1 = 2 ∨ s.1 = 3) (L : z_list s.1 (q_g s) (q_N s, q_E s)) (L' : z_list t.1 (q_g t) (q_N t, q_E t)) {j : Nat} (hj : j < q_N t) : ∃ i, i < q_N s ∧ (∀ k, k < 2 * s.1 → q_E t j (w_k y s.1 k) = q_E s i k) ∧ f_sumE t j = f_sumE s i ∧ ∀ p, p < 3 → f_pts t j p = f_pts s i p := by
  have G := S.G hy h3
  have L2 := L'
  rw [S.1] at L2
  obtain ⟨i, hi, e⟩ := G.symm.to L2 L hj
  have e2 : ∀ k, k < 2 * s.1 → q_E t j (w_k y s.1 k) = q_E s i k := fun k hk => by
    have := e _ (G.1 k hk).1
    rw [(G.1 k hk).2] at this
    exact this.symm
  refine ⟨i, hi, e2, G.sum6 h3 (L.2.1 i hi).2 (L2.2.1 j hj).2 e2, fun p hp => ?_⟩
  unfold f_pts
  rw [S.1, ← j_sum_perm G.1 (fun k => q_E t j k * (q_gb (q_g t) p k).toInt64)]
  exact j_sum_congr (fun k hk => by rw [e2 k hk, S.gb hp hk])
end ws2
/-! bits -/
theorem x_shr' {n k : Nat} (hn : n < 2 ^ 14) (hk : k < 6) : nI n >>> (nI k &&& 31) = nI (n / 2 ^ k) := by
  have hd : n / 2 ^ k < 2147483648 := Nat.lt_of_le_of_lt (Nat.div_le_self _ _) (by omega)
  rw [← Int32.toInt_inj, nI_toInt hd]
  have h1 : ∀ k, k < 6 → (nI k &&& 31) = nI k ∧ ((nI k).toBitVec.smod 32).toNat = k := by decide +kernel
  rw [(h1 k hk).1]
  show (nI n >>> nI k).toBitVec.toInt = _
  rw [Int32.toBitVec_shiftRight, BitVec.sshiftRight_eq', BitVec.toInt_sshiftRight]
  have h3 : (nI n).toBitVec.toInt = n := nI_toInt (show n < 2147483648 by omega)
  rw [h3, Int.shiftRight_eq_div_pow]
  have h4 : ((nI k).toBitVec.smod 32).toNat = k := (h1 k hk).2
  rw [h4]
  rfl
/-- a cell's place in a set -/
theorem x_bit {n k : Nat} (hn : n < 2 ^ 14) (hk : k < 6) : (nI n >>> (nI k &&& 31)) &&& (1 : Int32) = if n.testBit k = true then 1 else 0 := by
  rw [x_shr' hn hk, show (1 : Int32) = nI 1 from rfl, x_and, Nat.and_one_is_mod]
  have : n.testBit k = decide (n / 2 ^ k % 2 = 1) := by rw [Nat.testBit_eq_decide_div_mod_eq]
  rw [this]
  have h2 := Nat.mod_two_eq_zero_or_one (n / 2 ^ k)
  rcases h2 with z | z
  · rw [z]; rfl
  · rw [z]; rfl
noncomputable def n_told (s : QS) (i : Nat) : Nat := q_orN 6 fun k => if (0 : Int) < (q_E s i k).toInt then 2 ^ k else 0
noncomputable def n_any (s : QS) : Nat := q_orN (q_N s) (n_told s)
theorem q_orN_lt {n m : Nat} {f : Nat → Nat} (h : ∀ k, k < n → f k < 2 ^ m) : q_orN n f < 2 ^ m := by
  induction n with
  | zero => exact Nat.two_pow_pos m
  | succ n ih => rw [q_orN_s]; exact Nat.or_lt_two_pow (ih (fun k hk => h k (by omega))) (h n (by omega))
theorem n_told_lt {s : QS} {i : Nat} : n_told s i < 2 ^ 6 := q_orN_lt (fun k hk => by
  split
  · exact Nat.pow_lt_pow_right (by omega) hk
  · exact Nat.two_pow_pos 6)
theorem n_any_lt {s : QS} : n_any s < 2 ^ 6 := q_orN_lt (fun i _ => n_told_lt)
theorem f_told_n {s : QS} {i : Nat} : f_told s i = nI (n_told s i) := by
  unfold f_told n_told
  rw [q_or_congr (g := fun k => nI (if (0 : Int) < (q_E s i k).toInt then 2 ^ k else 0)) (fun k hk => by
    by_cases h : 0 < (q_E s i k).toInt
    · rw [if_pos (by rw [y_lt]; exact h), if_pos h]; exact q_set_nI (by omega)
    · rw [if_neg (by rw [y_lt]; exact h), if_neg h]; exact nI_0.symm), q_orN_nI]
theorem f_any_n {s : QS} : f_any s = nI (n_any s) := by
  unfold f_any n_any
  rw [q_or_congr (g := fun i => nI (n_told s i)) (fun i _ => f_told_n), q_orN_nI]
theorem n_told_bit {s : QS} {i k : Nat} (hk : k < 6) : (n_told s i).testBit k = true ↔ 0 < (q_E s i k).toInt := by
  unfold n_told
  rw [q_orN_bit]
  constructor
  · rintro ⟨q, hq, h⟩
    by_cases e : 0 < (q_E s i q).toInt
    · rw [if_pos e, Nat.testBit_two_pow, decide_eq_true_eq] at h
      rw [← h]; exact e
    · rw [if_neg e, Nat.zero_testBit] at h
      exact absurd h (by simp)
  · intro h
    exact ⟨k, hk, by rw [if_pos h, Nat.testBit_two_pow]; simp⟩
theorem n_any_bit {s : QS} {k : Nat} (hk : k < 6) : (n_any s).testBit k = true ↔ ∃ i, i < q_N s ∧ 0 < (q_E s i k).toInt := by
  unfold n_any
  rw [q_orN_bit]
  constructor
  · rintro ⟨i, hi, h⟩; exact ⟨i, hi, (n_told_bit hk).1 h⟩
  · rintro ⟨i, hi, h⟩; exact ⟨i, hi, (n_told_bit hk).2 h⟩
/-- cell k is told by some extreme dice: 0 or 1 -/
theorem f_any_bit {s : QS} {k : Nat} (hk : k < 6) : (f_any s >>> (nI k &&& 31)) &&& (1 : Int32) = if (n_any s).testBit k = true then 1 else 0 := by
  rw [f_any_n, x_bit (Nat.lt_of_lt_of_le n_any_lt (by decide)) hk]
section ws3
variable {y : Nat} {s t : QS}
theorem wS.any (S : wS y s t) (hy : y < 12) (h3 : s.1 = 2 ∨ s.1 = 3) (L : z_list s.1 (q_g s) (q_N s, q_E s)) (L' : z_list t.1 (q_g t) (q_N t, q_E t)) {k : Nat} (hk : k < 2 * s.1) : (n_any t).testBit (w_k y s.1 k) = (n_any s).testBit k := by
  have hk2 := ((S.G hy h3).1 k hk).1
  have h : (n_any t).testBit (w_k y s.1 k) = true ↔ (n_any s).testBit k = true := by
    rw [n_any_bit (by omega), n_any_bit (by omega)]
    constructor
    · rintro ⟨j, hj, h⟩
      obtain ⟨i, hi, e, -⟩ := S.from_ hy h3 L L' hj
      exact ⟨i, hi, by rw [← e k hk]; exact h⟩
    · rintro ⟨i, hi, h⟩
      obtain ⟨j, hj, e, -⟩ := S.to hy h3 L L' hi
      exact ⟨j, hj, by rw [e k hk]; exact h⟩
  cases e1 : (n_any t).testBit (w_k y s.1 k) <;> cases e2 : (n_any s).testBit k <;> simp_all
/-- moves that are never told -/
noncomputable def n_mv (s : QS) (p : Nat) : Nat := q_orN (2 * s.1) fun k => if (n_any s).testBit k = true then 2 ^ q_mv s.1 k p else 0
theorem n_fin : ∀ o, o < 8 → ∀ m, m < 4 → ∀ v, v < m → (((((1 : Int32) <<< (nI m &&& 31)) - (1 : Int32)) &&& (nI o ^^^ (-1 : Int32))) >>> (nI v &&& 31)) &&& (1 : Int32) = if o.testBit v = true then 0 else 1 := by decide +kernel
theorem q_mv3 {c k p : Nat} (h3 : c = 2 ∨ c = 3) (hk : k < 2 * c) : q_mv c k p < 3 := by
  unfold q_mv
  rcases h3 with rfl | rfl <;> (split <;> split <;> omega)
theorem f_never_bit {A : QA} (h3 : A.1.1 = 2 ∨ A.1.1 = 3) {p v : Nat} (hp : p < 2) (hv : v < (if p = 0 then 2 else A.1.1)) : (f_never A (nI p) >>> (nI v &&& 31)) &&& (1 : Int32) = if (n_mv A.1 p).testBit v = true then 0 else 1 := by
  have ep : q_vI (nI p) = p := by unfold q_vI; rw [nI_toInt (by omega)]; rfl
  have et : (nI p).toInt = p := nI_toInt (by omega)
  unfold f_never
  rw [if_pos (by rw [et]; omega), ep]
  have e0 : (if nI p = 0 then 2 else A.1.1) = if p = 0 then 2 else A.1.1 := by
    rcases (show p = 0 ∨ p = 1 by omega) with rfl | rfl <;> rfl
  rw [e0]
  have eo : (q_or (2 * A.1.1) fun k => if (f_any A.1 >>> (nI k &&& 31)) &&& (1 : Int32) = (1 : Int32) then (1 : Int32) <<< (nI (q_mv A.1.1 k p) &&& 31) else 0) = nI (n_mv A.1 p) := by
    unfold n_mv
    rw [q_or_congr (g := fun k => nI (if (n_any A.1).testBit k = true then 2 ^ q_mv A.1.1 k p else 0)) (fun k hk => by
      rw [f_any_bit (by omega)]
      cases e : (n_any A.1).testBit k
      · simp only [Bool.false_eq_true, if_false]
        rw [if_neg (by decide)]
        exact nI_0.symm
      · simp only [if_true]
        exact q_set_nI (Nat.lt_of_lt_of_le (q_mv3 h3 hk) (by omega))), q_orN_nI]
  rw [eo]
  refine n_fin _ (q_orN_lt (m := 3) (fun k hk => ?_)) _ (by split <;> omega) v hv
  split
  · exact Nat.pow_lt_pow_right (by omega) (q_mv3 h3 hk)
  · decide
theorem n_mv_bit {s : QS} {p v : Nat} : (n_mv s p).testBit v = true ↔ ∃ k, k < 2 * s.1 ∧ (n_any s).testBit k = true ∧ q_mv s.1 k p = v := by
  unfold n_mv
  rw [q_orN_bit]
  constructor
  · rintro ⟨k, hk, h⟩
    by_cases e : (n_any s).testBit k = true
    · rw [if_pos e, Nat.testBit_two_pow, decide_eq_true_eq] at h
      exact ⟨k, hk, e, h⟩
    · rw [if_neg e, Nat.zero_testBit] at h
      exact absurd h (by simp)
  · rintro ⟨k, hk, e, h⟩
    exact ⟨k, hk, by rw [if_pos e, h, Nat.testBit_two_pow]; simp⟩
theorem wS.never (S : wS y s t) (hy : y < 12) (h3 : s.1 = 2 ∨ s.1 = 3) (L : z_list s.1 (q_g s) (q_N s, q_E s)) (L' : z_list t.1 (q_g t) (q_N t, q_E t)) {p v v' : Nat} (hp : p < 2) (hv : ∀ k, k < 2 * s.1 → (q_mv s.1 (w_k y s.1 k) p = v' ↔ q_mv s.1 k p = v)) : (n_mv t p).testBit v' = (n_mv s p).testBit v := by
  have G := S.G hy h3
  have h : (n_mv t p).testBit v' = true ↔ (n_mv s p).testBit v = true := by
    rw [n_mv_bit, n_mv_bit, S.1]
    constructor
    · rintro ⟨k, hk, e, h⟩
      have h1 := G.2.1 k hk
      refine ⟨_, h1.1, ?_, ?_⟩
      · rw [← S.any hy h3 L L' h1.1, h1.2]; exact e
      · rw [← hv _ h1.1, h1.2]; exact h
    · rintro ⟨k, hk, e, h⟩
      exact ⟨_, (G.1 k hk).1, by rw [S.any hy h3 L L' hk]; exact e, (hv k hk).2 h⟩
  cases e1 : (n_mv t p).testBit v' <;> cases e2 : (n_mv s p).testBit v <;> simp_all
end ws3
