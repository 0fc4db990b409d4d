/-! ===== the class: put ===== -/
theorem t_and (z : Int64) : ∃ m : Nat, m < 256 ∧ (z &&& (255 : Int64)).toInt = m := by
  have h1 : (z &&& (255 : Int64)).toUInt64.toNat = z.toUInt64.toNat &&& 255 := by
    show (z.toUInt64 &&& (255 : Int64).toUInt64).toNat = _
    rw [UInt64.toNat_and]
    rfl
  have h2 : z.toUInt64.toNat &&& 255 ≤ 255 := Nat.and_le_right
  refine ⟨z.toUInt64.toNat &&& 255, by omega, ?_⟩
  rw [← h1]
  have h3 : (z &&& (255 : Int64)).toUInt64.toNat < 256 := by omega
  revert h3
  generalize z &&& (255 : Int64) = y
  intro h3
  have e : y.toInt = y.toBitVec.toInt := rfl
  have e2 : y.toUInt64.toNat = y.toBitVec.toNat := rfl
  rw [e, e2, BitVec.toInt_eq_toNat_cond, if_pos (by omega)]
theorem q_by_rng (x : Int64) (k : Nat) : ∃ m : Nat, m < 256 ∧ q_by x k = nI m := by
  rw [← q_by_eq]
  generalize (Int64.toUInt64 x >>> ((Int32.toInt64 (nI (8 * k))).toUInt64 &&& Int64.toUInt64 63)).toInt64 = z
  obtain ⟨m, hm, e⟩ := t_and z
  refine ⟨m, hm, ?_⟩
  rw [← Int32.toInt_inj, Int64.toInt_toInt32, e, nI_toInt (by omega)]
  rw [Int.bmod_def]
  omega
theorem t_nar {m : Nat} (hm : m < 65536) : (Int32.toUInt32 ((Int32.toUInt32 (nI m) % 65536).toInt32)).toUInt16.toUInt32.toInt32 = nI m := by
  have e1 : (Int32.toUInt32 (nI m)) = UInt32.ofNat m := Eq.trans rfl rfl
  have e2 : (UInt32.ofNat m).toNat = m := by rw [UInt32.toNat_ofNat']; omega
  have e3 : UInt32.ofNat m % 65536 = UInt32.ofNat m := by
    rw [← UInt32.toNat_inj, UInt32.toNat_mod, e2]
    show m % 65536 = m
    omega
  rw [e1, e3]
  have e4 : ∀ u : UInt32, u.toInt32.toUInt32 = u := fun u => rfl
  rw [e4]
  have e5 : (UInt32.ofNat m).toUInt16.toUInt32 = UInt32.ofNat m := by
    rw [← UInt32.toNat_inj, UInt16.toNat_toUInt32, UInt32.toNat_toUInt16, e2]
    omega
  rw [e5]
  exact Eq.trans rfl rfl
section cput
variable {h : AH} {A : QA}
theorem c_chars {x : Int64} : ∀ (d i : Nat), i + d = 8 → am_ev 30 7 [am_ph, am_ph, .int (nI i), .long (q_rs x i), am_ph, .int (nI i), am_ph, am_ph] [] h = some (some (.int (nI (q_mn x d i))), h) := by
  intro d
  induction d with
  | zero =>
    intro i hi
    rw [am_b30_7, x_c8, if_neg (by rw [x_lt (by omega) (by omega)]; omega)]
    rfl
  | succ d ih =>
    intro i hi
    rw [am_b30_7]
    simp only [lg_cmp_eq, lg_cmp_lt, lg_cmp_gt, y_lt]
    rw [show (33 : Int64).toInt = 33 from rfl, show (126 : Int64).toInt = 126 from rfl, if_pos (by rw [x_c8, x_lt (by omega) (by omega)]; omega)]
    unfold q_mn
    by_cases h0 : q_rs x i = 0
    · rw [if_pos h0, if_pos h0]
    · rw [if_neg h0, if_neg h0]
      by_cases h1 : (q_rs x i &&& (255 : Int64)).toInt < 33
      · rw [if_pos h1, if_neg (by omega), nI_0]
      · rw [if_neg h1]
        by_cases h2 : 126 < (q_rs x i &&& (255 : Int64)).toInt
        · rw [if_pos h2, if_neg (by omega), nI_0]
        · rw [if_neg h2, if_pos (by omega), nI_S]
          exact ih (i + 1) (by omega)
/-- the pad with j more characters -/
noncomputable def c_pm (h : AH) (x : Int64) (pn n j : Nat) : AH := am_sI (am_fo h 16 pn j (fun k => q_by x (n - 1 - k))) 15 0 (nI (pn + j))
theorem c_pm_s {x : Int64} {pn n j : Nat} : am_sI (am_sI (c_pm h x pn n j) 16 (pn + j) (q_by x (n - 1 - j))) 15 0 (nI (pn + (j + 1))) = c_pm h x pn n (j + 1) := by
  unfold c_pm
  refine am_ext rfl (fun b k => ?_) rfl rfl
  by_cases h1 : b = 15
  · subst h1
    simp only [x_I', x_Io, x_ud']
    simp
    rw [am_ud_ud]
  · by_cases h2 : b = 16
    · subst h2
      simp only [x_I', x_Io, x_ud']
      simp
      by_cases h3 : k = pn + j
      · subst h3
        rw [am_ud_eq, if_pos (by omega), show n - 1 - (pn + j - pn) = n - 1 - j by omega]
      · rw [am_ud_ne h3]
        by_cases h4 : pn ≤ k ∧ k < pn + j
        · rw [if_pos h4, if_pos (by omega)]
        · rw [if_neg h4, if_neg (by omega)]
    · simp only [x_I', x_Io, if_neg h1, if_neg h2]
theorem c_append (L : cL h) {x : Int64} {pn n : Nat} (hp : pn + n ≤ 60) : ∀ (d j : Nat), j + d = n → am_ev 31 3 [.ref 15, .long x, am_ph, .int (nI n), .int (nI j), am_ph] [] (c_pm h x pn n j) = some (none, c_pm h x pn n n) := by
  intro d
  induction d with
  | zero =>
    intro j hj
    rw [am_b31_3, if_neg (by rw [x_lt (by omega) (by omega)]; omega), show j = n by omega]
  | succ d ih =>
    intro j hj
    have k15 : am_kd (c_pm h x pn n j) 15 = 1 := L.k15
    have r15 : am_R (c_pm h x pn n j) 15 2 = some 16 := L.p2
    have k16 : am_kd (c_pm h x pn n j) 16 = 7 := L.k16
    have l16 : am_ln (c_pm h x pn n j) 16 = 60 := L.l16
    have e0 : am_I (c_pm h x pn n j) 15 0 = nI (pn + j) := by unfold c_pm; rw [am_sI_I, am_ud_eq]
    have i := ih (j + 1) (by omega)
    rw [← c_pm_s] at i
    obtain ⟨m, hm, em⟩ := q_by_rng x (n - 1 - j)
    have eb : Int64.toInt32 (((Int64.toUInt64 x >>> ((Int32.toInt64 ((8 : Int32) * ((nI n - (1 : Int32)) - nI j))).toUInt64 &&& Int64.toUInt64 63)).toInt64) &&& (255 : Int64)) = q_by x (n - 1 - j) := by
      rw [x_c1, x_sub (by omega), x_sub (by omega), x_c8, pk_mul, q_by_eq]
    rw [am_b31_3, if_pos (by rw [x_lt (by omega) (by omega)]; omega), if_pos k15, e0, if_neg (nI_pos (by omega)), if_pos k15, if_pos k15, r15, x_oe, if_pos (by rw [k16]; omega), x_ofNat, l16, if_pos (by rw [x_lt (by omega) (by omega)]; omega), if_pos k15, x_oe, if_pos k15, x_cl (by omega), if_pos ⟨k16, fun z => z.elim (nI_pos (by omega)) (by rw [l16]; omega)⟩, eb, em, t_nar (by omega), ← em]
    generalize c_pm h x pn n j = M at i k15 e0 ⊢
    generalize q_by x (n - 1 - j) = v at i ⊢
    have k2 : am_kd (am_sI M 16 (pn + j) v) 15 = 1 := k15
    have e2 : am_I (am_sI M 16 (pn + j) v) 15 0 = nI (pn + j) := by rw [am_sI_ne (by omega)]; exact e0
    try dsimp only
    rw [if_pos k2, if_pos k2, e2, nI_S, nI_S, show pn + j + 1 = pn + (j + 1) by omega]
    exact i
theorem c_put (I : cI h A) (x : Int64) : ∃ h1, am_ev 77 0 [.ref 1, .long x, am_ph, am_ph] [] h = some (some (.int (f_put A x)), h1) ∧ cI h1 (g_put A x) ∧ cF h h1 cN := by
  have L := I.1
  have hmn := q_mn_le x 8 0
  have e := c_chars (h := h) (x := x) 8 0 (by omega)
  have e6 := I.2.2.2.2.2.1
  have e7 := I.2.2.2.2.2.2.1
  rw [am_b77_0, am_b30_0]
  unfold f_put g_put
  revert e hmn
  generalize q_mn x 8 0 = n
  intro hmn e
  have e' : am_ev 30 7 [am_ph, am_ph, .int (0 : Int32), .long x, am_ph, .int (0 : Int32), am_ph, am_ph] [] h = some (some (.int (nI n)), h) := e
  rw [e', x_bI, x_c1]
  by_cases h1 : n = 0
  · rw [if_pos (by rw [x_lt (by omega) (by omega)]; omega), if_pos h1, if_pos h1]
    exact ⟨h, rfl, I, am_fr.rf.c (fun _ z => z)⟩
  · rw [if_neg (by rw [x_lt (by omega) (by omega)]; omega), if_neg h1, if_neg h1, if_pos L.k1, L.p, x_oe, if_pos L.k15, e6, nI_add, x_c60]
    by_cases h2 : 60 < A.2.2.2.1 + n
    · rw [if_pos (by rw [x_lt (by omega) (by omega)]; exact h2), if_pos h2, if_pos h2]
      exact ⟨h, rfl, I, am_fr.rf.c (fun _ z => z)⟩
    · have i := c_append L (x := x) (show A.2.2.2.1 + n ≤ 60 by omega) n 0 (by omega)
      have e0 : c_pm h x A.2.2.2.1 n 0 = h := by
        unfold c_pm
        rw [am_fo_0, Nat.add_zero, ← e6]
        unfold am_sI
        rw [am_ud_id, am_rI_id]
      have f : am_fr h (c_pm h x A.2.2.2.1 n n) (fun b => b = 15 ∨ b = 16 ∨ b = 17) := (am_fr_rI (Or.inr (Or.inl rfl))).tr (am_sI_fr (Or.inl rfl))
      have L2 := L.fr f
      have r2 : am_I (c_pm h x A.2.2.2.1 n n) 15 0 = nI (A.2.2.2.1 + n) := by unfold c_pm; rw [am_sI_I, am_ud_eq]
      rw [e0] at i
      rw [if_neg (by rw [x_lt (by omega) (by omega)]; exact h2), if_neg h2, if_neg h2, if_pos L.k1, x_oe, if_pos L.k15, am_b31_0]
      have i' : am_ev 31 3 [.ref 15, .long x, am_ph, .int (nI n), .int (0 : Int32), am_ph] [] h = some (none, c_pm h x A.2.2.2.1 n n) := i
      rw [i', x_bV, if_pos L2.k1, L2.p, x_oe, if_pos L2.k15, r2]
      refine ⟨_, rfl, I.pd f r2 (by omega) (fun k hk => ?_), f.pd.c (fun _ z => z)⟩
      unfold c_pm
      rw [am_sI_ne (by omega), am_fo_I]
      dsimp only
      unfold q_app
      by_cases h3 : A.2.2.2.1 ≤ k
      · rw [if_pos (by omega), if_pos h3]
      · rw [if_neg (by omega), if_neg h3]
        exact I.2.2.2.2.2.2.2 k (by omega)
end cput
