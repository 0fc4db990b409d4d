/-! ===== the Model: answers of extreme dice ===== -/
section mx
variable {h : AH} {A : QA}
theorem mZ.same {h1 : AH} {s : QS} (z : mZ h s) (e10 : am_I h1 20 10 = am_I h 20 10) (e25 : am_J h1 25 = am_J h 25) (e26 : am_J h1 26 = am_J h 26) : mZ h1 s := ⟨e10.trans z.1, fun i hi k hk => by rw [e25]; exact z.2.1 i hi k hk, fun i hi => by rw [e26]; exact z.2.2.1 i hi, z.2.2.2⟩
theorem mLk.z {h1 : AH} {s : QS} (l : mLk h h1) (z : mZ h s) : mZ h1 s := z.same (l.2.2.2.1 10 (by omega) (by omega) (by omega)) (by rw [l.2.2.2.2]) (by rw [l.2.2.2.2])
theorem mLk.x {h1 : AH} {s : QS} (l : mLk h h1) (x : mE h s) : mE h1 s := x.kp ⟨l.2.2.2.1 10 (by omega) (by omega) (by omega), l.2.2.2.1 11 (by omega) (by omega) (by omega), by rw [l.2.2.2.2], by rw [l.2.2.2.2]⟩ rfl rfl
theorem mZ.N {s : QS} (z : mZ h s) : 0 < q_N s ∧ q_N s ≤ 128 := z.2.2.2.1
theorem q_or_more {n : Nat} {f : Nat → Int32} : ∀ r, (∀ k, k < r → f (n + k) = 0) → q_or (n + r) f = q_or n f := by
  intro r
  induction r with
  | zero => intro _; rfl
  | succ r ih =>
    intro h
    rw [← Nat.add_assoc, q_or_s, ih (fun k hk => h k (by omega)), h r (by omega), q_or0]
theorem m_isEx (I : mI h A) (X : mE h A.1) (w : q_wf A.1) (x : Int32) : ∃ h1, am_ev 125 0 [.ref 20, .int x] [] h = some (some (.int (if 0 ≤ x.toInt ∧ x.toInt < q_N A.1 then 1 else 0)), h1) ∧ mI h1 A ∧ mfr h h1 ∧ mE h1 A.1 ∧ mZ h1 A.1 := by
  obtain ⟨h1, e1, I1, f1, X1, Z1⟩ := m_lay I X w
  have hN := Z1.N
  have hq : ((am_I h1 20 10).toInt64 - (1 : Int64)).toInt = (q_N A.1 : Int) - 1 := by
    have e2 : ((am_I h1 20 10).toInt64).toInt = (q_N A.1 : Int) := by rw [x_l, Z1.1, nI_toInt (by omega)]
    rw [y_sub (by rw [e2]; show _ ≤ _ - (1 : Int); omega) (by rw [e2]; show _ - (1 : Int) < _; omega), e2]
    rfl
  refine ⟨h1, ?_, I1, f1, X1, Z1⟩
  rw [am_b125_0, if_pos I.1.k, e1, x_bV, if_pos I1.1.k, m_in (p := 0) (q := (q_N A.1 : Int) - 1) rfl hq, x_bI]
  by_cases h0 : 0 ≤ x.toInt ∧ x.toInt < q_N A.1
  · rw [if_pos h0, if_pos (show 0 ≤ x.toInt ∧ x.toInt ≤ (q_N A.1 : Int) - 1 by omega), if_pos (Or.inr rfl)]
  · rw [if_neg h0, if_neg (show ¬ (0 ≤ x.toInt ∧ x.toInt ≤ (q_N A.1 : Int) - 1) by omega), if_pos (Or.inl rfl)]
theorem m_told (I : mI h A) (Z : mZ h A.1) {i : Nat} (hi : i < q_N A.1) : am_ev 126 0 [.ref 20, .int (nI i), am_ph, am_ph] [] h = some (some (.int (f_told A.1 i)), h) := by
  have mm := I.1
  have h6 := I.c6
  have hN := Z.N
  have key : ∀ d j, j + d = 2 * A.1.1 → am_ev 126 4 [.ref 20, .int (nI i), .int (q_or j fun k => if (0 : Int64) < q_E A.1 i k then q_set k else 0), .int (nI j)] [] h = some (some (.int (f_told A.1 i)), h) := by
    intro d
    induction d with
    | zero =>
      intro j hj
      obtain rfl : j = 2 * A.1.1 := by omega
      rw [am_b126_4, if_pos mm.k, m_cells mm I.c, x_bI, if_neg (by rw [x_lt (by omega) (by omega)]; omega)]
      congr 3
      unfold f_told
      obtain ⟨r, hr⟩ : ∃ r, 6 = 2 * A.1.1 + r := ⟨6 - 2 * A.1.1, by omega⟩
      rw [hr, q_or_more r (fun k hk => by
        have : q_E A.1 i (2 * A.1.1 + k) = 0 := (Z.2.2.2.2.1 i hi).2 _ (by omega)
        rw [this, if_neg (by decide)])]
    | succ d ih =>
      intro j hj
      have i' := ih (j + 1) (by omega)
      rw [q_or_s] at i'
      rw [am_b126_4, if_pos mm.k, m_cells mm I.c, x_bI, if_pos (by rw [x_lt (by omega) (by omega)]; omega), if_pos mm.k, mm.r8, x_oe, x_c6, pk_mul, nI_add, x_cl (by omega), if_pos ⟨mm.k8, fun z => z.elim (nI_pos (by omega)) (by rw [mm.l8]; omega)⟩, Z.2.1 i hi j (by omega), nI_1]
      simp only [lg_cmp_gt]
      by_cases h1 : (0 : Int64) < q_E A.1 i j
      · rw [if_pos h1] at i' ⊢
        exact i'
      · rw [if_neg h1] at i' ⊢
        exact i'
  have k0 := key (2 * A.1.1) 0 (by omega)
  rw [nI_0] at k0
  rw [am_b126_0]
  exact k0
theorem m_any (I : mI h A) (X : mE h A.1) (w : q_wf A.1) : ∃ h1, am_ev 127 0 [.ref 20, am_ph, am_ph] [] h = some (some (.int (f_any A.1)), h1) ∧ mI h1 A ∧ mfr h h1 ∧ mE h1 A.1 := by
  obtain ⟨h1, e1, I1, f1, X1, Z⟩ := m_lay I X w
  have hN := Z.N
  have key : ∀ d j, j + d = q_N A.1 → am_ev 127 8 [.ref 20, .int (q_or j (f_told A.1)), .int (nI j)] [] h1 = some (some (.int (f_any A.1)), h1) := by
    intro d
    induction d with
    | zero =>
      intro j hj
      obtain rfl : j = q_N A.1 := by omega
      rw [am_b127_8, if_pos I1.1.k, Z.1, if_neg (by rw [x_lt (by omega) (by omega)]; omega)]
      rfl
    | succ d ih =>
      intro j hj
      have i' := ih (j + 1) (by omega)
      rw [q_or_s] at i'
      rw [am_b127_8, if_pos I1.1.k, Z.1, if_pos (by rw [x_lt (by omega) (by omega)]; omega), if_pos I1.1.k, m_told I1 Z (by omega), x_bI, nI_1]
      exact i'
  have k0 := key (q_N A.1) 0 (by omega)
  rw [nI_0] at k0
  exact ⟨h1, by rw [am_b127_0, if_pos I.1.k, e1, x_bV]; exact k0, I1, f1, X1⟩
theorem m_tset (I : mI h A) (Z : mZ h A.1) (w : q_wf A.1) {i : Nat} (hi : i < q_N A.1) : ∃ h1, am_ev 128 0 [.ref 20, .int (nI i), am_ph, am_ph, am_ph, am_ph, am_ph] [] h = some (some (.int (f_tset A.1 i)), h1) ∧ mLk h h1 := by
  have h3 := I.c3
  have h6 := I.c6
  have h8 := q_nq_le h3
  have hg := w.rng
  have hN := Z.N
  have hxi := (Z.2.2.2.2.1 i hi).1
  have bd := fun k hk => z_small h3 hg (Nat.le_refl _) hxi k hk
  let ST : Nat → Int32 := fun q => if z_dot (2 * A.1.1) (z_row A.1.1 (q_g A.1) (2 * A.1.1 + q)) (fun k => (q_E A.1 i k).toInt) = 0 then q_set q else 0
  have key : ∀ d q, q + d = q_nq A.1.1 → ∀ M : AH, mLk h M → ∃ h1, am_ev 128 4 [.ref 20, .int (nI i), .int (q_or q ST), .int (nI q), am_ph, am_ph, am_ph] [] M = some (some (.int (f_tset A.1 i)), h1) ∧ mLk h h1 := by
    intro d
    induction d with
    | zero =>
      intro q hq M l
      obtain rfl : q = q_nq A.1.1 := by omega
      have IM := l.sc.I I
      refine ⟨M, ?_, l⟩
      rw [am_b128_4, if_pos IM.1.k, m_inequalities IM.1 IM.c h3, x_bI, if_neg (by rw [x_lt (by omega) (by omega)]; omega)]
      rfl
    | succ d ih =>
      intro q hq M l
      have IM := l.sc.I I
      have hq2 : q < q_nq A.1.1 := by omega
      have lK : mLk h (mK M A.1.1 q) := l.tr mLk.K
      have IK := lK.sc.I I
      have ZK := lK.z Z
      obtain ⟨h1, e1, l1⟩ := ih (q + 1) (by omega) (mK M A.1.1 q) lK
      rw [q_or_s] at e1
      have hin : ∀ d k, k + d = 2 * A.1.1 → am_ev 128 23 [.ref 20, .int (nI i), .int (q_or q ST), .int (nI q), .long (j_sum k fun k => q_E A.1 i k * (q_ls A.1.1 (q_g A.1) q k).toInt64), am_ph, .int (nI k)] [] (mK M A.1.1 q) = am_ev 128 4 [.ref 20, .int (nI i), .int (q_or q ST ||| ST q), .int (nI (q + 1)), am_ph, am_ph, am_ph] [] (mK M A.1.1 q) := by
        intro d
        induction d with
        | zero =>
          intro k hk
          obtain rfl : k = 2 * A.1.1 := by omega
          have hdot : (j_sum (2 * A.1.1) fun k => q_E A.1 i k * (q_ls A.1.1 (q_g A.1) q k).toInt64).toInt = z_dot (2 * A.1.1) (z_row A.1.1 (q_g A.1) (2 * A.1.1 + q)) (fun k => (q_E A.1 i k).toInt) := by
            rw [x_dotn h6 (fun k hk => by have := bd k hk; dsimp only at this; omega) (fun k hk => by
              have := q_ls_toInt h3 hg hq2 hk
              revert this
              split <;> omega)]
            exact z_sum_congr (fun k hk => by
              unfold z_row
              dsimp only
              rw [if_neg (by omega), show 2 * A.1.1 + q - 2 * A.1.1 = q by omega])
          rw [am_b128_23, if_pos IK.1.k, m_cells IK.1 IK.c, x_bI, if_neg (by rw [x_lt (by omega) (by omega)]; omega), nI_1]
          simp only [lg_cmp_eq, y_eq, hdot]
          rw [show (0 : Int64).toInt = 0 from rfl]
          by_cases h0 : z_dot (2 * A.1.1) (z_row A.1.1 (q_g A.1) (2 * A.1.1 + q)) (fun k => (q_E A.1 i k).toInt) = 0
          · have : ST q = q_set q := if_pos h0
            rw [if_pos h0, this]
            rfl
          · have : ST q = 0 := if_neg h0
            rw [if_neg h0, this]
        | succ d ih =>
          intro k hk
          have i' := ih (k + 1) (by omega)
          rw [j_sum_s] at i'
          rw [am_b128_23, if_pos IK.1.k, m_cells IK.1 IK.c, x_bI, if_pos (by rw [x_lt (by omega) (by omega)]; omega), if_pos IK.1.k, IK.1.r8, x_oe, x_c6, pk_mul, nI_add, x_cl (by omega), if_pos ⟨IK.1.k8, fun z => z.elim (nI_pos (by omega)) (by rw [IK.1.l8]; omega)⟩, if_pos IK.1.k, m_loss IM.1 IM.c h3 hq2 (show k < 2 * A.1.1 by omega), x_bI, ZK.2.1 i hi k (by omega), q_ls_congr h3 hq2 (show k < 2 * A.1.1 by omega) IM.G', nI_1]
          exact i'
      have i0 := hin (2 * A.1.1) 0 (by omega)
      rw [nI_0] at i0
      refine ⟨h1, ?_, l1⟩
      rw [am_b128_4, if_pos IM.1.k, m_inequalities IM.1 IM.c h3, x_bI, if_pos (by rw [x_lt (by omega) (by omega)]; omega), if_pos IM.1.k, m_look IM.1 IM.c h3 hq2, x_bV]
      exact i0.trans e1
  obtain ⟨h1, e1, l1⟩ := key (q_nq A.1.1) 0 (by omega) h mLk.rf
  rw [nI_0] at e1
  exact ⟨h1, by rw [am_b128_0]; exact e1, l1⟩
theorem m_pts (I : mI h A) (Z : mZ h A.1) {i p : Nat} (hi : i < q_N A.1) (hp : p < 3) : am_ev 152 0 [.ref 20, .int (nI i), .int (nI p), am_ph, am_ph, am_ph] [] h = some (some (.long (f_pts A.1 i p)), h) := by
  have mm := I.1
  have h6 := I.c6
  have hN := Z.N
  have key : ∀ d j, j + d = 2 * A.1.1 → am_ev 152 5 [.ref 20, .int (nI i), .int (nI p), .long (j_sum j fun k => q_E A.1 i k * (q_gb (q_g A.1) p k).toInt64), am_ph, .int (nI j)] [] h = some (some (.long (f_pts A.1 i p)), h) := by
    intro d
    induction d with
    | zero =>
      intro j hj
      obtain rfl : j = 2 * A.1.1 := by omega
      rw [am_b152_5, if_pos mm.k, m_cells mm I.c, x_bI, if_neg (by rw [x_lt (by omega) (by omega)]; omega)]
      rfl
    | succ d ih =>
      intro j hj
      have i' := ih (j + 1) (by omega)
      rw [j_sum_s] at i'
      rw [am_b152_5, if_pos mm.k, m_cells mm I.c, x_bI, if_pos (by rw [x_lt (by omega) (by omega)]; omega), if_pos mm.k, mm.r8, x_oe, x_c6, pk_mul, nI_add, x_cl (by omega), if_pos ⟨mm.k8, fun z => z.elim (nI_pos (by omega)) (by rw [mm.l8]; omega)⟩, if_pos mm.k, m_pointsFor I hp (by omega), x_bI, Z.2.1 i hi j (by omega), nI_1]
      exact i'
  have k0 := key (2 * A.1.1) 0 (by omega)
  rw [nI_0] at k0
  rw [am_b152_0]
  exact k0
theorem m_sumE (Z : mZ h A.1) {i : Nat} (hi : i < q_N A.1) : am_J h 26 i = f_sumE A.1 i := Z.2.2.1 i hi
theorem m_sumPos (w : q_wf A.1) (Z : mZ h A.1) {i : Nat} (hi : i < q_N A.1) : 0 < (f_sumE A.1 i).toInt := (zE.sum w.c3 w.rng (Z.2.2.2.2.1 i hi).1 (Z.2.2.2.2.1 i hi).2).2.2.1
end mx
