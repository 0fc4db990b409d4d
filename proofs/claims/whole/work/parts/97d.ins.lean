/-! ===== the Model: obeyed or not; put in its place ===== -/
def mLk (h h1 : AH) : Prop := h1.1 = h.1 ∧ am_R h1 = am_R h ∧ (∀ b, b ≠ 20 → am_I h1 b = am_I h b) ∧ (∀ k, k ≠ 5 → k ≠ 6 → k ≠ 7 → am_I h1 20 k = am_I h 20 k) ∧ am_J h1 = am_J h
theorem mLk.rf {h : AH} : mLk h h := ⟨rfl, rfl, fun _ _ => rfl, fun _ _ _ _ => rfl, rfl⟩
theorem mLk.tr {h h1 h2 : AH} (a : mLk h h1) (b : mLk h1 h2) : mLk h h2 := ⟨b.1.trans a.1, b.2.1.trans a.2.1, fun x p => (b.2.2.1 x p).trans (a.2.2.1 x p), fun k p q r => (b.2.2.2.1 k p q r).trans (a.2.2.2.1 k p q r), b.2.2.2.2.trans a.2.2.2.2⟩
theorem mLk.K {h : AH} {c q : Nat} : mLk h (mK h c q) := ⟨rfl, rfl, fun x p => mK_I p, (mSc.K (h := h) (c := c) (q := q)).2.2.2.1, rfl⟩
theorem mLk.sc {h h1 : AH} (a : mLk h h1) : mSc h h1 := ⟨a.1, a.2.1, fun b p _ => a.2.2.1 b p, a.2.2.2.1, fun b _ => by rw [a.2.2.2.2]⟩
section ins
variable {h : AH} {A : QA}
theorem m_obeyed {v : Nat → Int} (I : mI h A) (hg : z_rng (q_g A.1)) (hv : ∀ k, k < 2 * A.1.1 → (am_J h 30 k).toInt = v k) (hb : ∀ k, k < 2 * A.1.1 → (v k).natAbs ≤ 136048896) : ∃ b h1, am_ev 120 0 [.ref 20, am_ph, am_ph, am_ph, am_ph, am_ph] [] h = some (some (.int b), h1) ∧ mLk h h1 ∧ (b = 1 ∧ z_feas (2 * A.1.1) (2 * A.1.1 + q_nq A.1.1) (z_row A.1.1 (q_g A.1)) v ∨ b = 0 ∧ ¬ z_feas (2 * A.1.1) (2 * A.1.1 + q_nq A.1.1) (z_row A.1.1 (q_g A.1)) v) := by
  have h3 := I.c3
  have h6 := I.c6
  have h8 := q_nq_le h3
  have mm := I.1
  have u := z_row_unit (c := A.1.1) (t := q_nq A.1.1) (g := q_g A.1)
  have key1 : ∀ d k, k + d = 2 * A.1.1 → ∀ b : Int32, (b = 1 ∧ (∀ k', k' < k → 0 ≤ v k') ∨ b = 0 ∧ ¬ ∀ k', k' < 2 * A.1.1 → 0 ≤ v k') → ∃ b' : Int32, (b' = 1 ∧ (∀ k', k' < 2 * A.1.1 → 0 ≤ v k') ∨ b' = 0 ∧ ¬ ∀ k', k' < 2 * A.1.1 → 0 ≤ v k') ∧ am_ev 120 4 [.ref 20, .int b, .int (nI k), am_ph, am_ph, am_ph] [] h = am_ev 120 41 [.ref 20, .int b', .int (0 : Int32), am_ph, am_ph, am_ph] [] h := by
    intro d
    induction d with
    | zero =>
      intro k hk b hb'
      obtain rfl : k = 2 * A.1.1 := by omega
      refine ⟨b, hb', ?_⟩
      rw [am_b120_4, if_pos mm.k, m_cells mm I.c, x_bI, if_neg (by rw [x_lt (by omega) (by omega)]; omega)]
    | succ d ih =>
      intro k hk b hb'
      rw [am_b120_4, if_pos mm.k, m_cells mm I.c, x_bI, if_pos (by rw [x_lt (by omega) (by omega)]; omega)]
      rcases hb' with ⟨b1, hall⟩ | ⟨b0, hn⟩
      · rw [if_neg (by rw [b1]; decide), if_pos mm.k, mm.r15, x_oe, x_cl (by omega), if_pos ⟨mm.k15, fun z => z.elim (nI_pos (by omega)) (by rw [mm.l15]; omega)⟩]
        simp only [lg_cmp_lt, y_lt, hv k (by omega)]
        rw [show (0 : Int64).toInt = 0 from rfl, nI_1]
        by_cases h1 : v k < 0
        · rw [if_pos h1]
          exact ih (k + 1) (by omega) 0 (Or.inr ⟨rfl, fun z => by have := z k (by omega); omega⟩)
        · rw [if_neg h1]
          exact ih (k + 1) (by omega) 1 (Or.inl ⟨rfl, fun k' hk' => by
            by_cases e : k' = k
            · rw [e]; omega
            · exact hall k' (by omega)⟩)
      · rw [if_pos b0, nI_1]
        exact ih (k + 1) (by omega) 0 (Or.inr ⟨rfl, hn⟩)
  have key2 : ∀ d q, q + d = q_nq A.1.1 → ∀ (M : AH) (b : Int32), mLk h M → (b = 1 ∧ (∀ i, i < 2 * A.1.1 + q → 0 ≤ z_dot (2 * A.1.1) (z_row A.1.1 (q_g A.1) i) v) ∨ b = 0 ∧ ¬ z_feas (2 * A.1.1) (2 * A.1.1 + q_nq A.1.1) (z_row A.1.1 (q_g A.1)) v) → ∃ b' h1, am_ev 120 41 [.ref 20, .int b, .int (nI q), am_ph, am_ph, am_ph] [] M = some (some (.int b'), h1) ∧ mLk h h1 ∧ (b' = 1 ∧ z_feas (2 * A.1.1) (2 * A.1.1 + q_nq A.1.1) (z_row A.1.1 (q_g A.1)) v ∨ b' = 0 ∧ ¬ z_feas (2 * A.1.1) (2 * A.1.1 + q_nq A.1.1) (z_row A.1.1 (q_g A.1)) v) := by
    intro d
    induction d with
    | zero =>
      intro q hq M b lM hb'
      obtain rfl : q = q_nq A.1.1 := by omega
      have IM := lM.sc.I I
      refine ⟨b, M, ?_, lM, hb'⟩
      rw [am_b120_41, if_pos IM.1.k, m_inequalities IM.1 IM.c h3, x_bI, if_neg (by rw [x_lt (by omega) (by omega)]; omega), if_pos (by rcases hb' with z | z; exact Or.inr z.1; exact Or.inl z.1)]
    | succ d ih =>
      intro q hq M b lM hb'
      have IM := lM.sc.I I
      rw [am_b120_41, if_pos IM.1.k, m_inequalities IM.1 IM.c h3, x_bI, if_pos (by rw [x_lt (by omega) (by omega)]; omega)]
      rcases hb' with ⟨b1, hall⟩ | ⟨b0, hn⟩
      · rw [if_neg (by rw [b1]; decide), if_pos IM.1.k, m_look IM.1 IM.c h3 (show q < q_nq A.1.1 by omega), x_bV]
        have lK : mLk h (mK M A.1.1 q) := lM.tr mLk.K
        have IK := lK.sc.I I
        have hin : ∀ d k, k + d = 2 * A.1.1 → am_ev 120 63 [.ref 20, am_ph, .int (nI q), .long (j_sum k fun k => am_J h 30 k * (q_ls A.1.1 (q_g A.1) q k).toInt64), am_ph, .int (nI k)] [] (mK M A.1.1 q) = (if (j_sum (2 * A.1.1) fun k => am_J h 30 k * (q_ls A.1.1 (q_g A.1) q k).toInt64) < 0 then am_ev 120 41 [.ref 20, .int (0 : Int32), .int (nI (q + 1)), am_ph, am_ph, am_ph] [] (mK M A.1.1 q) else am_ev 120 41 [.ref 20, .int (1 : Int32), .int (nI (q + 1)), am_ph, am_ph, am_ph] [] (mK M A.1.1 q)) := by
          intro d
          induction d with
          | zero =>
            intro k hk
            obtain rfl : k = 2 * A.1.1 := by omega
            rw [am_b120_63, if_pos IK.1.k, m_cells IK.1 IK.c, x_bI, if_neg (by rw [x_lt (by omega) (by omega)]; omega)]
            simp only [lg_cmp_lt]
            rw [nI_1]
          | succ d ih =>
            intro k hk
            have i' := ih (k + 1) (by omega)
            rw [j_sum_s] at i'
            have eJ : am_J (mK M A.1.1 q) 30 k = am_J h 30 k := by rw [lK.2.2.2.2]
            rw [am_b120_63, if_pos IK.1.k, m_cells IK.1 IK.c, x_bI, if_pos (by rw [x_lt (by omega) (by omega)]; omega), if_pos IK.1.k, IK.1.r15, x_oe, x_cl (by omega), if_pos ⟨IK.1.k15, fun z => z.elim (nI_pos (by omega)) (by rw [IK.1.l15]; omega)⟩, if_pos IK.1.k, m_loss IM.1 IM.c h3 (show q < q_nq A.1.1 by omega) (show k < 2 * A.1.1 by omega), x_bI, eJ, q_ls_congr h3 (show q < q_nq A.1.1 by omega) (show k < 2 * A.1.1 by omega) IM.G', nI_1]
            exact i'
        have i0 := hin (2 * A.1.1) 0 (by omega)
        rw [nI_0] at i0
        have hdot : (j_sum (2 * A.1.1) fun k => am_J h 30 k * (q_ls A.1.1 (q_g A.1) q k).toInt64).toInt = z_dot (2 * A.1.1) (z_row A.1.1 (q_g A.1) (2 * A.1.1 + q)) v := by
          rw [x_dotn h6 (fun k hk => by rw [hv k hk]; exact hb k hk) (fun k hk => by
            have := q_ls_toInt h3 hg (show q < q_nq A.1.1 by omega) hk
            revert this
            split <;> omega)]
          exact z_sum_congr (fun k hk => by
            unfold z_row
            dsimp only
            rw [hv k hk, if_neg (by omega), show 2 * A.1.1 + q - 2 * A.1.1 = q by omega])
        have hlt : ((j_sum (2 * A.1.1) fun k => am_J h 30 k * (q_ls A.1.1 (q_g A.1) q k).toInt64) < 0) = (z_dot (2 * A.1.1) (z_row A.1.1 (q_g A.1) (2 * A.1.1 + q)) v < 0) := by
          rw [y_lt, hdot]
          rfl
        by_cases h1 : z_dot (2 * A.1.1) (z_row A.1.1 (q_g A.1) (2 * A.1.1 + q)) v < 0
        · rw [if_pos (by rw [hlt]; exact h1)] at i0
          obtain ⟨b', h1', e1, r1⟩ := ih (q + 1) (by omega) (mK M A.1.1 q) 0 lK (Or.inr ⟨rfl, fun z => by
            have := z (2 * A.1.1 + q) (by omega)
            omega⟩)
          exact ⟨b', h1', i0.trans e1, r1⟩
        · rw [if_neg (by rw [hlt]; exact h1)] at i0
          obtain ⟨b', h1', e1, r1⟩ := ih (q + 1) (by omega) (mK M A.1.1 q) 1 lK (Or.inl ⟨rfl, fun i hi => by
            by_cases e : i = 2 * A.1.1 + q
            · rw [e]; omega
            · exact hall i (by omega)⟩)
          exact ⟨b', h1', i0.trans e1, r1⟩
      · rw [if_pos b0, if_pos (Or.inl b0)]
        exact ⟨b, M, rfl, lM, Or.inr ⟨b0, hn⟩⟩
  obtain ⟨b, hb', e1⟩ := key1 (2 * A.1.1) 0 (by omega) 1 (Or.inl ⟨rfl, fun k hk => by omega⟩)
  rw [nI_0] at e1
  obtain ⟨b', h1, e2, r2⟩ := key2 (q_nq A.1.1) 0 (by omega) h b mLk.rf (by
    rcases hb' with ⟨b1, z⟩ | ⟨b0, z⟩
    · exact Or.inl ⟨b1, fun i hi => by rw [z_dot_unit u (by omega)]; exact z i (by omega)⟩
    · exact Or.inr ⟨b0, fun y => z (fun k hk => y.nn u k hk)⟩)
  rw [nI_0] at e2
  exact ⟨b', h1, by rw [am_b120_0]; exact e1.trans e2, r2⟩
/-- the Model's list -/
def mLi (h : AH) (N : Nat) (E : Nat → Nat → Int64) : Prop := am_I h 20 10 = nI N ∧ (∀ i, i < N → ∀ k, k < 6 → am_J h 25 (6 * i + k) = E i k) ∧ ∀ i, i < N → am_J h 26 i = j_sum 6 (E i)
def zQ (c : Nat) (g : Nat → Nat → Int32) (N : Nat) (E : Nat → Nat → Int64) : Prop := (∀ i, i < N → z_ext (2 * c) (2 * c + q_nq c) (z_row c g) (fun k => (E i k).toInt) ∧ ∀ k, 2 * c ≤ k → E i k = 0) ∧ ∀ i j, i < j → j < N → zB c E i j
theorem zQ.few {c N : Nat} {g : Nat → Nat → Int32} {E : Nat → Nat → Int64} (h3 : c = 2 ∨ c = 3) (Q : zQ c g N E) : N ≤ 128 := z_few (z_row_unit (t := q_nq c) (g := g)) (by omega) (z_row_in h3 (Nat.le_refl _)) (L := fun i k => (E i k).toInt) (fun i hi => (Q.1 i hi).1) (fun i j hij hj => Classical.byContradiction (fun hn => (Q.2 i j hij hj).irr (fun k hk => Classical.byContradiction (fun z => hn ⟨k, hk, z⟩))))
theorem zE.sum {c : Nat} {g : Nat → Nat → Int32} (h3 : c = 2 ∨ c = 3) (hg : z_rng g) {e : Nat → Int64} (hx : z_ext (2 * c) (2 * c + q_nq c) (z_row c g) (fun k => (e k).toInt)) (h0 : ∀ k, 2 * c ≤ k → e k = 0) : (j_sum 6 e).toInt = z_sum (2 * c) (fun k => (e k).toInt) ∧ (j_sum (2 * c) e) = j_sum 6 e ∧ 0 < (j_sum 6 e).toInt ∧ (j_sum 6 e).toInt ≤ 816293376 := by
  have h6 : 2 * c ≤ 6 := by rcases h3 with e | e <;> omega
  have bd : ∀ k, k < 6 → 0 ≤ (e k).toInt ∧ (e k).toInt ≤ 136048896 := fun k hk => by
    by_cases hk2 : k < 2 * c
    · exact z_small h3 hg (Nat.le_refl _) hx k hk2
    · rw [h0 k (by omega)]; decide
  obtain ⟨j1, j2, j3⟩ := j_sum_int (B := 136048896) (f := e) (by omega) 6 (by omega) (fun k hk => by have := bd k hk; omega)
  have e1 : (j_sum 6 e).toInt = z_sum (2 * c) (fun k => (e k).toInt) := by
    rw [j1]
    obtain ⟨r, hr⟩ : ∃ r, 6 = 2 * c + r := ⟨6 - 2 * c, by omega⟩
    rw [hr, z_sum_split, z_sum_congr (n := r) (g := fun _ => 0) (fun k hk => by
      rw [h0 (2 * c + k) (by omega)]
      rfl), z_sum_0, Int.add_zero]
  obtain ⟨i1, i2, i3⟩ := j_sum_int (B := 136048896) (f := e) (by omega) (2 * c) (by omega) (fun k hk => by have := bd k (by omega); omega)
  refine ⟨e1, Int64.toInt_inj.1 (by rw [i1, e1]), ?_, by omega⟩
  rw [e1]
  exact hx.sum z_row_unit
theorem m_ahead {N i : Nat} {E : Nat → Nat → Int64} {e : Nat → Int64} (I : mI h A) (hg : z_rng (q_g A.1)) (L : mLi h N E) (Q : zQ A.1.1 (q_g A.1) N E) (hi : i < N) (hx : z_ext (2 * A.1.1) (2 * A.1.1 + q_nq A.1.1) (z_row A.1.1 (q_g A.1)) (fun k => (e k).toInt)) (h0 : ∀ k, 2 * A.1.1 ≤ k → e k = 0) (he : ∀ k, k < 2 * A.1.1 → am_J h 30 k = e k) : ∃ r : Int64, am_ev 121 0 [.ref 20, .int (nI i), .long (j_sum 6 e), am_ph, am_ph, am_ph, am_ph] [] h = some (some (.long r), h) ∧ (r < 0 ∧ z_bef (2 * A.1.1) (fun k => (E i k).toInt) (fun k => (e k).toInt) ∨ r = 0 ∧ (∀ k, k < 2 * A.1.1 → (E i k).toInt = (e k).toInt) ∨ ¬ r < 0 ∧ r ≠ 0 ∧ z_bef (2 * A.1.1) (fun k => (e k).toInt) (fun k => (E i k).toInt)) := by
  have h3 := I.c3
  have h6 := I.c6
  have mm := I.1
  have hN := Q.few h3
  have Gi := Q.1 i hi
  have si := zE.sum h3 hg Gi.1 Gi.2
  have sv := zE.sum h3 hg hx h0
  have bi := fun k hk => z_small h3 hg (Nat.le_refl _) Gi.1 k hk
  have bv := fun k hk => z_small h3 hg (Nat.le_refl _) hx k hk
  have val : ∀ k, k < 2 * A.1.1 → (e k * j_sum 6 (E i) - E i k * j_sum 6 e).toInt = (e k).toInt * z_sum (2 * A.1.1) (fun k => (E i k).toInt) - (E i k).toInt * z_sum (2 * A.1.1) (fun k => (e k).toInt) := fun k hk => by
    have b1 := bi k hk
    have b2 := bv k hk
    have p1 : 0 ≤ (e k).toInt * (j_sum 6 (E i)).toInt ∧ (e k).toInt * (j_sum 6 (E i)).toInt ≤ 136048896 * 816293376 := ⟨Int.mul_nonneg b2.1 (by omega), Int.mul_le_mul b2.2 si.2.2.2 (by omega) (by omega)⟩
    have p2 : 0 ≤ (E i k).toInt * (j_sum 6 e).toInt ∧ (E i k).toInt * (j_sum 6 e).toInt ≤ 136048896 * 816293376 := ⟨Int.mul_nonneg b1.1 (by omega), Int.mul_le_mul b1.2 sv.2.2.2 (by omega) (by omega)⟩
    have m1 : (e k * j_sum 6 (E i)).toInt = (e k).toInt * (j_sum 6 (E i)).toInt := y_mul (by omega) (by omega)
    have m2 : (E i k * j_sum 6 e).toInt = (E i k).toInt * (j_sum 6 e).toInt := y_mul (by omega) (by omega)
    rw [y_sub (by rw [m1, m2]; omega) (by rw [m1, m2]; omega), m1, m2, si.1, sv.1]
  have key : ∀ d k, k + d = 2 * A.1.1 → (∀ q, q < k → (e q).toInt * z_sum (2 * A.1.1) (fun k => (E i k).toInt) = (E i q).toInt * z_sum (2 * A.1.1) (fun k => (e k).toInt)) → ∃ r : Int64, am_ev 121 3 [.ref 20, .int (nI i), .long (j_sum 6 e), am_ph, .int (nI k), am_ph, am_ph] [] h = some (some (.long r), h) ∧ (r < 0 ∧ z_bef (2 * A.1.1) (fun k => (E i k).toInt) (fun k => (e k).toInt) ∨ r = 0 ∧ (∀ k, k < 2 * A.1.1 → (E i k).toInt = (e k).toInt) ∨ ¬ r < 0 ∧ r ≠ 0 ∧ z_bef (2 * A.1.1) (fun k => (e k).toInt) (fun k => (E i k).toInt)) := by
    intro d
    induction d with
    | zero =>
      intro k hk hq
      obtain rfl : k = 2 * A.1.1 := by omega
      refine ⟨0, ?_, Or.inr (Or.inl ⟨rfl, ?_⟩)⟩
      · rw [am_b121_3, if_pos mm.k, m_cells mm I.c, x_bI, if_neg (by rw [x_lt (by omega) (by omega)]; omega)]
      · have s1 := si.1
        have s2 := sv.1
        refine z_prim_eq (a := z_sum (2 * A.1.1) (fun k => (E i k).toInt)) (b := z_sum (2 * A.1.1) (fun k => (e k).toInt)) Gi.1.2.1 hx.2.1 (Gi.1.1.nn z_row_unit) (hx.1.nn z_row_unit) (by omega) (fun k hk => ?_)
        have := hq k hk
        rw [Int.mul_comm, this, Int.mul_comm]
    | succ d ih =>
      intro k hk hq
      have hk2 : k < 2 * A.1.1 := by omega
      have ev := val k hk2
      have eE := L.2.1 i hi k (by omega)
      rw [am_b121_3, if_pos mm.k, m_cells mm I.c, x_bI, if_pos (by rw [x_lt (by omega) (by omega)]; omega), if_pos mm.k, mm.r15, x_oe, x_cl (by omega), if_pos ⟨mm.k15, fun z => z.elim (nI_pos (by omega)) (by rw [mm.l15]; omega)⟩, if_pos mm.k, mm.r9, x_oe, x_cl (by omega), if_pos ⟨mm.k9, fun z => z.elim (nI_pos (by omega)) (by rw [mm.l9]; omega)⟩, if_pos mm.k, mm.r8, x_oe, x_c6, pk_mul, nI_add, x_cl (by omega), if_pos ⟨mm.k8, fun z => z.elim (nI_pos (by omega)) (by rw [mm.l8]; omega)⟩, he k hk2, L.2.2 i hi, eE]
      simp only [lg_cmp_eq]
      rw [nI_1]
      by_cases hz : e k * j_sum 6 (E i) - E i k * j_sum 6 e = 0
      · rw [if_pos hz]
        rw [hz] at ev
        have ev : (0 : Int) = _ := ev
        refine ih (k + 1) (by omega) (fun q hq' => ?_)
        by_cases eq : q = k
        · rw [eq]; omega
        · exact hq q (by omega)
      · rw [if_neg hz]
        refine ⟨_, rfl, ?_⟩
        have hlt : (e k * j_sum 6 (E i) - E i k * j_sum 6 e < 0) = ((e k).toInt * z_sum (2 * A.1.1) (fun k => (E i k).toInt) - (E i k).toInt * z_sum (2 * A.1.1) (fun k => (e k).toInt) < 0) := by rw [y_lt, ev]; rfl
        have hne : (e k).toInt * z_sum (2 * A.1.1) (fun k => (E i k).toInt) - (E i k).toInt * z_sum (2 * A.1.1) (fun k => (e k).toInt) ≠ 0 := fun z => hz (Int64.toInt_inj.1 (by rw [ev, z]; rfl))
        by_cases h1 : (e k).toInt * z_sum (2 * A.1.1) (fun k => (E i k).toInt) - (E i k).toInt * z_sum (2 * A.1.1) (fun k => (e k).toInt) < 0
        · exact Or.inl ⟨by rw [hlt]; exact h1, k, hk2, fun q hq' => (hq q hq').symm, by dsimp only; omega⟩
        · exact Or.inr (Or.inr ⟨by rw [hlt]; exact h1, hz, k, hk2, hq, by dsimp only; omega⟩)
  obtain ⟨r, e1, r1⟩ := key (2 * A.1.1) 0 (by omega) (fun q hq => by omega)
  rw [nI_0] at e1
  exact ⟨r, by rw [am_b121_0]; exact e1, r1⟩
end ins
