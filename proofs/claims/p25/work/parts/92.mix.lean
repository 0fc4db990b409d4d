/-! ===== mixtures; the class's take and mix ===== -/
theorem q_ns_pos {n k : Nat} {F : Nat → Nat} (hk : k < n) (h : 0 < F k) : 0 < q_ns n F := by
  have := q_ns_ge (F := F) hk
  omega
theorem q_mixd_int {s : QS} (w : q_wf s) (L : z_list s.1 (q_g s) (q_N s, q_E s)) {i : Nat} (hi : i < q_N s) {x y : Int32} (hx : 0 ≤ x.toInt ∧ x.toInt ≤ 9) (hy : 0 ≤ y.toInt ∧ y.toInt ≤ 9) {k : Nat} (hk : k < 6) : (q_mixd s i x y k).toInt = x.toInt * (s.2.2.2.1 k).toInt + y.toInt * (q_E s i k).toInt ∧ 0 ≤ (s.2.2.2.1 k).toInt ∧ 0 ≤ (q_E s i k).toInt ∧ 0 ≤ x.toInt * (s.2.2.2.1 k).toInt ∧ 0 ≤ y.toInt * (q_E s i k).toInt := by
  have h3 := w.c3
  have b1 := q_w_rng w hk
  have b2 : 0 ≤ (q_E s i k).toInt ∧ (q_E s i k).toInt ≤ 136048896 := by
    by_cases hk2 : k < 2 * s.1
    · exact z_small h3 w.rng (Nat.le_refl _) (L.2.1 i hi).1 k hk2
    · have : q_E s i k = 0 := (L.2.1 i hi).2 k (by omega)
      rw [this]; decide
  have p1 : 0 ≤ x.toInt * (s.2.2.2.1 k).toInt ∧ x.toInt * (s.2.2.2.1 k).toInt ≤ 9 * 999 := ⟨Int.mul_nonneg hx.1 b1.1, Int.mul_le_mul hx.2 b1.2 b1.1 (by omega)⟩
  have p2 : 0 ≤ y.toInt * (q_E s i k).toInt ∧ y.toInt * (q_E s i k).toInt ≤ 9 * 136048896 := ⟨Int.mul_nonneg hy.1 b2.1, Int.mul_le_mul hy.2 b2.2 b2.1 (by omega)⟩
  refine ⟨?_, b1.1, b2.1, p1.1, p2.1⟩
  unfold q_mixd
  have m1 : (Int32.toInt64 x * Int32.toInt64 (s.2.2.2.1 k)).toInt = x.toInt * (s.2.2.2.1 k).toInt := by rw [y_mul (by rw [x_l, x_l]; omega) (by rw [x_l, x_l]; omega), x_l, x_l]
  have m2 : (Int32.toInt64 y * q_E s i k).toInt = y.toInt * (q_E s i k).toInt := by rw [y_mul (by rw [x_l]; omega) (by rw [x_l]; omega), x_l]
  rw [y_add (by rw [m1, m2]; omega) (by rw [m1, m2]; omega), m1, m2]
theorem q_mixw_wf {s : QS} (w : q_wf s) (L : z_list s.1 (q_g s) (q_N s, q_E s)) {i : Nat} (hi : i < q_N s) {x y : Int32} (ok : q_mixok x y) (hn : ¬ ∃ k, k < 2 * s.1 ∧ (999 : Int64) < q_mixd s i x y k) : q_wf (q_mixw s i x y) := by
  obtain ⟨hx, hy, hxy⟩ := ok
  have h3 := w.c3
  have h6 : 2 * s.1 ≤ 6 := by rcases h3 with e | e <;> omega
  obtain ⟨W, w1, w2⟩ := w.2.1
  have hm : ∀ k, k < 2 * s.1 → 0 ≤ (q_mixd s i x y k).toInt ∧ (q_mixd s i x y k).toInt ≤ 999 := fun k hk => by
    have d := q_mixd_int w L hi hx hy (show k < 6 by omega)
    refine ⟨by omega, Classical.byContradiction (fun z => hn ⟨k, hk, ?_⟩)⟩
    rw [y_lt]
    show (999 : Int) < _
    omega
  have hv : ∀ k, k < 2 * s.1 → (q_mixd s i x y k).toInt32 = nI (q_mixd s i x y k).toInt.toNat := fun k hk => by
    have := hm k hk
    rw [← Int32.toInt_inj, Int64.toInt_toInt32, nI_toInt (by omega), Int.bmod_def]
    omega
  refine ⟨h3, ⟨fun k => if k < 2 * s.1 then (q_mixd s i x y k).toInt.toNat else W k, fun k hk => ?_, ?_⟩, w.2.2.1, w.2.2.2⟩
  · show (if k < 2 * s.1 then (q_mixd s i x y k).toInt32 else s.2.2.2.1 k) = _ ∧ _
    by_cases h1 : k < 2 * s.1
    · have := hm k h1
      dsimp only
      rw [if_pos h1, if_pos h1, hv k h1]
      exact ⟨rfl, by omega, fun z => by exact absurd z (by show ¬ 2 * s.1 ≤ k; omega)⟩
    · dsimp only
      rw [if_neg h1, if_neg h1]
      exact w1 k hk
  · have key : ∃ k, k < 2 * s.1 ∧ 0 < (q_mixd s i x y k).toInt := by
      by_cases h0 : x.toInt = 0
      · have hy0 : 0 < y.toInt := by
          rcases (show y.toInt = 0 ∨ 0 < y.toInt by omega) with z | z
          · exact absurd ⟨Int32.toInt_inj.1 h0, Int32.toInt_inj.1 z⟩ hxy
          · exact z
        obtain ⟨k, hk, hne⟩ := (L.2.1 i hi).1.2.1.1
        have hne : (q_E s i k).toInt ≠ 0 := hne
        have d := q_mixd_int w L hi hx hy (show k < 6 by omega)
        have p : 0 < y.toInt * (q_E s i k).toInt := Int.mul_pos hy0 (by omega)
        exact ⟨k, hk, by omega⟩
      · have hW : ∃ k, k < 6 ∧ 0 < W k := Classical.byContradiction (fun z => by
          have hz : ∀ k, k < 6 → W k ≤ 0 := fun k hk => Nat.le_of_not_lt (fun z2 => z ⟨k, hk, z2⟩)
          have := q_ns_le (n := 6) (m := 0) hz
          omega)
        obtain ⟨k, hk, hk0⟩ := hW
        have hk2 : k < 2 * s.1 := Classical.byContradiction (fun z => by
          have := (w1 k hk).2.2 (by omega)
          omega)
        have d := q_mixd_int w L hi hx hy hk
        have ew : (s.2.2.2.1 k).toInt = W k := by
          rw [(w1 k hk).1, nI_toInt (by have := (w1 k hk).2.1; omega)]
        have p : 0 < x.toInt * (s.2.2.2.1 k).toInt := Int.mul_pos (by omega) (by omega)
        exact ⟨k, hk2, by omega⟩
    obtain ⟨k, hk, hp⟩ := key
    refine q_ns_pos (k := k) (by omega) ?_
    rw [if_pos hk]
    omega
section mix
variable {h : AH} {A : QA}
theorem c_mixed {b i k : Nat} {τ : Nat → Nat} {s : QS} {x y : Int32} (L : cL h) (S : sS h 2 s.1) (X : xC h b (q_N s) (q_E s) τ) (hi : i < q_N s) (hk : k < 6) (ew : am_I h 4 k = s.2.2.2.1 k) : am_ev 87 0 [.ref 1, .ref 6, .int (nI i), .int (nI k), .int x, .int y] [] h = some (some (.long (q_mixd s i x y k)), h) := by
  rw [am_b87_0, if_pos L.k1, L.n, x_oe, if_pos S.1, S.2.2.1, x_oe, s_amount S.2.2.2.2.2.1.1 (by rw [S.2.2.2.2.2.1.2]; omega) (by omega), if_pos (by rw [S.2.2.2.2.2.1.2]; exact hk), x_bI, if_pos X.1.k, x_weight X hi hk, x_bJ]
  have : am_I h (2 + 2) k = s.2.2.2.1 k := ew
  rw [this]
  rfl
theorem c_mixWith {b i : Nat} {τ : Nat → Nat} {x y : Int32} (I : cI h A) (C : xE h) (W : xW h b τ A.1) (w : q_wf A.1) (hi : i < q_N A.1) (ok : q_mixok x y) : ∃ h1, am_ev 86 0 [.ref 1, .ref 6, .int (nI i), .int x, .int y, am_ph] [] h = some (some (.int (f_mixes A i x y)), h1) ∧ cI h1 (g_mixes A i x y) ∧ xE h1 ∧ cF h h1 cM := by
  have L := I.1
  have S := I.S
  have X := W.1
  have h6 := I.c6
  unfold f_mixes g_mixes
  -- the first loop
  have key1 : ∀ d j, j + d = 2 * A.1.1 → (∀ k, k < j → ¬ (999 : Int64) < q_mixd A.1 i x y k) → ((∃ k, k < 2 * A.1.1 ∧ (999 : Int64) < q_mixd A.1 i x y k) ∧ am_ev 86 3 [.ref 1, .ref 6, .int (nI i), .int x, .int y, .int (nI j)] [] h = some (some (.int (-4)), h)) ∨ (¬ (∃ k, k < 2 * A.1.1 ∧ (999 : Int64) < q_mixd A.1 i x y k) ∧ am_ev 86 3 [.ref 1, .ref 6, .int (nI i), .int x, .int y, .int (nI j)] [] h = am_bV (am_ev 89 0 [.ref 1, am_ph] [] h) (fun h6 => am_ev 86 49 [.ref 1, .ref 6, .int (nI i), .int x, .int y, .int (0 : Int32)] [] h6)) := by
    intro d
    induction d with
    | zero =>
      intro j hj hn
      right
      refine ⟨fun ⟨k, hk, z⟩ => hn k (by omega) z, ?_⟩
      rw [am_b86_3, if_pos L.k1, L.n, x_oe, if_pos S.1, s_cells S, x_bI, if_neg (by rw [x_lt (by omega) (by omega)]; omega), if_pos L.k1]
    | succ d ih =>
      intro j hj hn
      rw [am_b86_3, if_pos L.k1, L.n, x_oe, if_pos S.1, s_cells S, x_bI, if_pos (by rw [x_lt (by omega) (by omega)]; omega), if_pos L.k1, c_mixed L S X hi (by omega) (I.W (by omega)), x_bJ]
      simp only [lg_cmp_gt]
      rw [nI_1]
      by_cases h1 : (999 : Int64) < q_mixd A.1 i x y j
      · left
        rw [if_pos h1]
        exact ⟨⟨j, by omega, h1⟩, rfl⟩
      · rw [if_neg h1]
        exact ih (j + 1) (by omega) (fun k hk => by
          by_cases e : k = j
          · rw [e]; exact h1
          · exact hn k (by omega))
  rw [am_b86_0]
  have k1 := key1 (2 * A.1.1) 0 (by omega) (fun k hk => by omega)
  rw [nI_0] at k1
  rcases k1 with ⟨hx, e⟩ | ⟨hx, e⟩
  · rw [z_pif_pos hx, z_pif_pos hx]
    exact ⟨h, e, I, C, am_fr.rf.c (fun _ z => z)⟩
  · rw [z_pif_neg hx, z_pif_neg hx, e]
    obtain ⟨h2, e2, I2, f2⟩ := I.rec
    have sm := f2.sm L
    have w2 := q_mixw_wf w W.2.1 hi ok hx
    have key2 : ∀ d j, j + d = 2 * A.1.1 → ∀ (M : AH), cI M ((A.1.1, A.1.2.1, A.1.2.2.1, fun k => if k < j then (q_mixd A.1 i x y k).toInt32 else A.1.2.2.2.1 k, A.1.2.2.2.2), q_rec A, A.2.2) → xSm h M → ∃ M1, am_ev 86 49 [.ref 1, .ref 6, .int (nI i), .int x, .int y, .int (nI j)] [] M = some (some (.int (q_sum (2 * A.1.1) (q_mixw A.1 i x y).2.2.2.1)), M1) ∧ cI M1 (q_mixw A.1 i x y, q_rec A, A.2.2) ∧ am_fr M M1 cN ∧ xSm h M1 := by
      intro d
      induction d with
      | zero =>
        intro j hj M IM sM
        obtain rfl : j = 2 * A.1.1 := by omega
        have SM : sS M 2 A.1.1 := IM.S
        have LM := IM.1
        refine ⟨M, ?_, IM, am_fr.rf, sM⟩
        rw [am_b86_49, if_pos LM.k1, LM.n, x_oe, if_pos SM.1, s_cells SM, x_bI, if_neg (by rw [x_lt (by omega) (by omega)]; omega), if_pos LM.k1, LM.n, x_oe, if_pos SM.1, SM.2.2.1, x_oe, IM.sW, x_bI]
        exact congrArg (fun z => some (some (Value.int z), M)) w2.sW6
      | succ d ih =>
        intro j hj M IM sM
        have SM : sS M 2 A.1.1 := IM.S
        have LM := IM.1
        have XM := X.same sM
        have ew : am_I M 4 j = A.1.2.2.2.1 j := by
          rw [IM.W (by omega)]
          dsimp only
          rw [if_neg (by omega)]
        have q2 := IM.2.2.1.w (k := j) (by omega) (q_mixd A.1 i x y j).toInt32
        have I3 := IM.now q2.1 q2.2
        have hf : am_ud (fun k => if k < j then (q_mixd A.1 i x y k).toInt32 else A.1.2.2.2.1 k) j (q_mixd A.1 i x y j).toInt32 = fun k => if k < j + 1 then (q_mixd A.1 i x y k).toInt32 else A.1.2.2.2.1 k := by
          funext k
          by_cases e : k = j
          · rw [e, am_ud_eq, if_pos (by omega)]
          · rw [am_ud_ne e]
            by_cases e2 : k < j
            · rw [if_pos e2, if_pos (by omega)]
            · rw [if_neg e2, if_neg (by omega)]
        dsimp only at I3
        rw [hf] at I3
        have sM3 : xSm h (am_sI M 4 j (q_mixd A.1 i x y j).toInt32) := fun a h1 h2 => by
          have a1 := sM a h1 h2
          have a2 := (am_fr.sm (h := M) (h1 := am_sI M 4 j (q_mixd A.1 i x y j).toInt32) (P := fun a => a = 4) (am_sI_fr rfl) (fun a z => by omega)) a h1 h2
          exact ⟨a2.1.trans a1.1, a2.2.1.trans a1.2.1, a2.2.2.1.trans a1.2.2.1, a2.2.2.2.1.trans a1.2.2.2.1, a2.2.2.2.2.trans a1.2.2.2.2⟩
        obtain ⟨M1, e1, I1, f1, s1⟩ := ih (j + 1) (by omega) _ I3 sM3
        refine ⟨M1, ?_, I1, q2.1.now.tr f1, s1⟩
        rw [am_b86_49, if_pos LM.k1, LM.n, x_oe, if_pos SM.1, s_cells SM, x_bI, if_pos (by rw [x_lt (by omega) (by omega)]; omega), if_pos LM.k1, LM.n, x_oe, if_pos SM.1, SM.2.2.1, x_oe, if_pos LM.k1, c_mixed LM SM XM hi (by omega) ew, x_bJ, s_setAmount SM.2.2.2.2.2.1.1 (by rw [SM.2.2.2.2.2.1.2]; omega) (by omega) (by rw [SM.2.2.2.2.2.1.2]; omega), x_bV, nI_1]
        exact e1
    obtain ⟨M1, e3, I3, f3, s3⟩ := key2 (2 * A.1.1) 0 (by omega) h2 (by
      have : (fun k => if k < 0 then (q_mixd A.1 i x y k).toInt32 else A.1.2.2.2.1 k) = A.1.2.2.2.1 := by funext k; rw [if_neg (by omega)]
      rw [this]
      exact I2) sm
    rw [nI_0] at e3
    rw [e2, x_bV]
    exact ⟨M1, e3, I3, C.same s3, (f2.tr f3).wk cN.M⟩
theorem c_take (I : cI h A) (C : xE h) (w : q_wf A.1) (x : Int32) : ∃ h1, am_ev 64 0 [.ref 1, .int x, am_ph] [] h = some (some (.int (f_take A x)), h1) ∧ cI h1 (g_take A x) ∧ xE h1 ∧ cF h h1 cM := by
  have L := I.1
  obtain ⟨h1, b, τ, e1, I1, C1, f1, W⟩ := c_work I C w
  have hN := W.N
  rw [am_b64_0, if_pos L.k1, L.e, x_oe, if_pos L.k1, L.n, x_oe, if_pos L.k6, e1, x_bA, if_pos W.1.1.k, x_has W.1.1 W.1.2.1 hN.2, x_bI, x_ite]
  unfold f_take g_take
  by_cases h0 : 0 ≤ x.toInt ∧ x.toInt < q_N A.1
  · obtain ⟨i, rfl, ei, -⟩ := q_nI h0.1
    have ev : q_vI (nI i) = i := by unfold q_vI; omega
    rw [if_pos h0, if_pos h0, if_pos h0, ev, if_pos I1.1.k1]
    obtain ⟨h2, e2, I2, C2, f2⟩ := c_mixWith (x := 0) (y := 1) I1 C1 W w (show i < q_N A.1 by omega) ⟨by decide, by decide, by decide⟩
    rw [e2, x_bI]
    exact ⟨h2, rfl, I2, C2, f1.trM f2⟩
  · rw [if_neg h0, if_neg h0, if_neg h0]
    exact ⟨h1, rfl, I1, C1, f1.M⟩
theorem c_mix (I : cI h A) (C : xE h) (w : q_wf A.1) (n x y : Int32) : ∃ h1, am_ev 65 0 [.ref 1, .int n, .int x, .int y, am_ph] [] h = some (some (.int (f_mix A n x y)), h1) ∧ cI h1 (g_mix A n x y) ∧ xE h1 ∧ cF h h1 cM := by
  have L := I.1
  obtain ⟨h1, b, τ, e1, I1, C1, f1, W⟩ := c_work I C w
  have hN := W.N
  rw [am_b65_0, if_pos L.k1, L.e, x_oe, if_pos L.k1, L.n, x_oe, if_pos L.k6, e1, x_bA, if_pos W.1.1.k, x_has W.1.1 W.1.2.1 hN.2, x_bI, x_ite]
  unfold f_mix g_mix
  by_cases h0 : 0 ≤ n.toInt ∧ n.toInt < q_N A.1
  · obtain ⟨i, rfl, ei, -⟩ := q_nI h0.1
    have ev : q_vI (nI i) = i := by unfold q_vI; omega
    rw [if_pos h0, if_pos h0, if_pos h0, ev, c_rng (p := 0) (q := 9) rfl rfl]
    by_cases hx : 0 ≤ x.toInt ∧ x.toInt ≤ 9
    · rw [if_pos hx, c_rng (p := 0) (q := 9) rfl rfl]
      by_cases hy : 0 ≤ y.toInt ∧ y.toInt ≤ 9
      · rw [if_pos hy]
        by_cases hz : x = 0 ∧ y = 0
        · rw [if_pos hz.1, if_pos hz.2, if_neg (fun z => z.2.2 hz), if_neg (fun z => z.2.2 hz)]
          exact ⟨h1, rfl, I1, C1, f1.M⟩
        · have ok : q_mixok x y := ⟨hx, hy, hz⟩
          rw [if_pos ok, if_pos ok]
          obtain ⟨h2, e2, I2, C2, f2⟩ := c_mixWith I1 C1 W w (show i < q_N A.1 by omega) ok
          rw [if_pos I1.1.k1, e2, x_bI]
          refine ⟨h2, ?_, I2, C2, f1.trM f2⟩
          by_cases hx0 : x = 0
          · rw [if_pos hx0, if_neg (fun z => hz ⟨hx0, z⟩)]
          · rw [if_neg hx0]
      · rw [if_neg hy, if_neg (fun z => hy z.2.1), if_neg (fun z => hy z.2.1)]
        exact ⟨h1, rfl, I1, C1, f1.M⟩
    · rw [if_neg hx, if_neg (fun z => hx z.1), if_neg (fun z => hx z.1)]
      exact ⟨h1, rfl, I1, C1, f1.M⟩
  · rw [if_neg h0, if_neg h0, if_neg h0]
    exact ⟨h1, rfl, I1, C1, f1.M⟩
end mix
