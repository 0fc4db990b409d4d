/-! ===== the class: extreme, best, neverTold, cell, count ===== -/
section cx2
variable {h : AH} {A : QA}
theorem c_extreme (I : cI h A) (C : xE h) (w : q_wf A.1) (x y : Int32) : ∃ h1, am_ev 73 0 [.ref 1, .int x, .int y, am_ph] [] h = some (some (.int (f_extreme A x y)), h1) ∧ cI h1 A ∧ xE h1 ∧ xF h h1 := by
  have L := I.1
  have h3 := I.c3
  have h6 := I.c6
  obtain ⟨h1, b, τ, e1, I1, C1, f1, W⟩ := c_work I C w
  have hN := W.N
  have X := W.1
  have m := X.1
  rw [am_b73_0, if_pos L.k1, L.e, x_oe, if_pos L.k1, L.n, x_oe, if_pos L.k6, e1, x_bA, if_pos m.k, x_has m X.2.1 hN.2, x_bI, x_ite]
  refine ⟨h1, ?_, I1, C1, f1⟩
  unfold f_extreme
  by_cases h0 : 0 ≤ x.toInt ∧ x.toInt < q_N A.1
  · obtain ⟨i, rfl, ei, -⟩ := q_nI h0.1
    have ev : q_vI (nI i) = i := by unfold q_vI; omega
    have hi : i < q_N A.1 := by omega
    rw [if_pos h0, if_pos h0, ev]
    have e45 : am_ev 73 45 [am_ph, .int (nI i), .int y, .ref 6] [] h1 = some (some (.int (if y = nI 6 then (f_sumE A.1 i).toInt32 else if y = nI 7 then f_told A.1 i else if y = nI 8 then f_tset A.1 i else -2)), h1) := by
      have e6 : am_ev 6 0 [.ref 6, .int (nI i)] [] h1 = some (some (.int (f_tset A.1 i)), h1) := by
        rw [am_b6_0, if_pos m.k, x_tightAt X hi, x_bI, f_tset_of h3 (W.2.2.2 i hi)]
      rw [am_b73_45]
      by_cases y6 : y = nI 6
      · rw [if_pos y6, if_pos y6, if_pos m.k, x_sumAt m (by omega), x_bJ, W.2.2.1 i hi]
      · rw [if_neg y6, if_neg y6]
        by_cases y7 : y = nI 7
        · rw [if_pos y7, if_pos y7, if_pos m.k, x_toldC W hi, x_bI]
        · rw [if_neg y7, if_neg y7]
          by_cases y8 : y = nI 8
          · rw [if_pos y8, if_pos y8, if_pos m.k, e6, x_bI]
          · rw [if_neg y8, if_neg y8]
    simp only [x_lt0I]
    by_cases hy : 0 ≤ y.toInt
    · obtain ⟨k, rfl, ek, hk⟩ := q_nI hy
      have evk : q_vI (nI k) = k := by unfold q_vI; omega
      rw [if_neg (fun z => z hy), if_pos I1.1.k1, I1.1.n, x_oe, if_pos I1.S.1, s_cells I1.S, x_bI, evk]
      by_cases hk2 : k < 2 * A.1.1
      · rw [if_pos (by rw [x_lt hk (by omega)]; exact hk2), if_pos m.k, x_weight X hi (by omega), x_bJ, if_pos (by omega)]
      · rw [if_neg (by rw [x_lt hk (by omega)]; exact hk2), if_neg (show ¬ (0 ≤ (nI k).toInt ∧ (nI k).toInt < 2 * (A.1.1 : Int)) by omega), e45]
    · rw [if_pos hy, if_neg (show ¬ (0 ≤ y.toInt ∧ y.toInt < 2 * (A.1.1 : Int)) by omega), e45]
  · rw [if_neg h0, if_neg h0]
theorem c_best (I : cI h A) (C : xE h) (w : q_wf A.1) (x y : Int32) : ∃ h1, am_ev 74 0 [.ref 1, .int x, .int y, am_ph, am_ph] [] h = some (some (.int (f_best A x y)), h1) ∧ cI h1 A ∧ xE h1 ∧ xF h h1 := by
  have L := I.1
  rw [am_b74_0, c_isBoth, x_bI, x_ite]
  unfold f_best
  by_cases h0 : 0 ≤ x.toInt ∧ x.toInt ≤ 2
  · rw [if_pos h0, if_pos h0, c_rng (p := 0) (q := 1) rfl rfl]
    by_cases h1' : 0 ≤ y.toInt ∧ y.toInt ≤ 1
    · obtain ⟨p, rfl, ep, -⟩ := q_nI h0.1
      have ev : q_vI (nI p) = p := by unfold q_vI; omega
      have hp : p < 3 := by omega
      obtain ⟨h1, b, τ, e1, I1, C1, f1, W⟩ := c_work I C w
      have X := W.1
      have hN := W.N
      obtain ⟨eb, hb⟩ := x_bestC I1 W hp
      have L1 := I1.1
      rw [if_pos h1', if_pos h1', ev, if_pos L.k1, L.e, x_oe, if_pos L.k1, L.n, x_oe, if_pos L.k6, e1, x_bA, if_pos L1.k1, L1.n, x_oe, if_pos X.1.k, eb, x_bI]
      refine ⟨h1, ?_, I1, C1, f1⟩
      by_cases hy : y = 0
      · rw [if_pos hy, if_pos hy]
      · rw [if_neg hy, if_neg hy, if_pos L1.k1, L1.n, x_oe, if_pos X.1.k, x_ptsC I1 W hb hp, x_bJ, if_pos X.1.k, x_sumAt X.1 (by omega), x_bJ, W.2.2.1 _ hb, x_thou (x_sumPos w W hb), x_bI]
    · rw [if_neg h1', if_neg h1']
      exact ⟨h, rfl, I, C, xF.rf⟩
  · rw [if_neg h0, if_neg h0]
    exact ⟨h, rfl, I, C, xF.rf⟩
theorem c_never29 (I : cI h A) {p : Nat} (hp : p < 2) {a : Int32} (ha : a = f_any A.1) : ∀ (d j : Nat), j + d = 2 * A.1.1 → am_ev 75 29 [.ref 1, .int (nI p), .int a, .int (q_or j fun k => if (a >>> (nI k &&& 31)) &&& (1 : Int32) = (1 : Int32) then (1 : Int32) <<< (nI (q_mv A.1.1 k p) &&& 31) else 0), .int (nI j)] [] h = some (some (.int ((((1 : Int32) <<< (nI (if p = 0 then 2 else A.1.1) &&& 31)) - (1 : Int32)) &&& ((q_or (2 * A.1.1) fun k => if (a >>> (nI k &&& 31)) &&& (1 : Int32) = (1 : Int32) then (1 : Int32) <<< (nI (q_mv A.1.1 k p) &&& 31) else 0) ^^^ (-1 : Int32)))), h) := by
  have L := I.1
  have S := I.S
  have h6 := I.c6
  intro d
  induction d with
  | zero =>
    intro j hj
    obtain rfl : j = 2 * A.1.1 := by omega
    rw [am_b75_29, if_pos L.k1, L.n, x_oe, if_pos S.1, s_cells S, x_bI, if_neg (by rw [x_lt (by omega) (by omega)]; omega)]
    simp only [x_eq0 (show p < 2147483648 by omega)]
    by_cases e : p = 0
    · rw [if_pos e, if_pos e, am_b75_88, x_c2]
    · rw [if_neg e, if_neg e, if_pos L.k1, L.n, x_oe, if_pos S.1, S.2.2.2.2.2.2.2.1, am_b75_88]
  | succ d ih =>
    intro j hj
    have i' := ih (j + 1) (by omega)
    rw [q_or_s] at i'
    rw [am_b75_29, if_pos L.k1, L.n, x_oe, if_pos S.1, s_cells S, x_bI, if_pos (by rw [x_lt (by omega) (by omega)]; omega), nI_1]
    by_cases e : (a >>> (nI j &&& 31)) &&& (1 : Int32) = (1 : Int32)
    · rw [if_pos e] at i'
      rw [if_pos e, if_pos L.k1, L.n, x_oe, if_pos S.1, s_moveIn S (by omega) hp, x_bI]
      exact i'
    · rw [if_neg e, q_or0] at i'
      rw [if_neg e]
      exact i'
theorem c_never (I : cI h A) (C : xE h) (w : q_wf A.1) (x : Int32) : ∃ h1, am_ev 75 0 [.ref 1, .int x, am_ph, am_ph, am_ph] [] h = some (some (.int (f_never A x)), h1) ∧ cI h1 A ∧ xE h1 ∧ xF h h1 := by
  have L := I.1
  rw [am_b75_0, c_isPlayer, x_bI, x_ite]
  unfold f_never
  by_cases h0 : 0 ≤ x.toInt ∧ x.toInt ≤ 1
  · obtain ⟨p, rfl, ev, hp⟩ := q_pl2 h0
    obtain ⟨h1, b, τ, e1, I1, C1, f1, W⟩ := c_work I C w
    have X := W.1
    have k0 := c_never29 I1 hp rfl (2 * A.1.1) 0 (by omega)
    rw [nI_0] at k0
    have hp0 : (nI p = 0) = (p = 0) := x_eq0 (by omega)
    simp only [hp0]
    rw [if_pos h0, if_pos h0, ev, if_pos L.k1, L.e, x_oe, if_pos L.k1, L.n, x_oe, if_pos L.k6, e1, x_bA, if_pos X.1.k, x_anyC W, x_bI]
    exact ⟨h1, k0, I1, C1, f1⟩
  · rw [if_neg h0, if_neg h0]
    exact ⟨h, rfl, I, C, xF.rf⟩
theorem q_sure_01 {c k : Nat} {g : Nat → Nat → Int32} : q_sure c g k = 0 ∨ q_sure c g k = 1 := by
  unfold q_sure
  split
  · exact Or.inr rfl
  · exact Or.inl rfl
theorem c_cell (I : cI h A) (C : xE h) (w : q_wf A.1) (r q y : Int32) : ∃ h1, am_ev 69 0 [.ref 1, .int r, .int q, .int y, am_ph] [] h = some (some (.int (f_cell A r q y)), h1) ∧ cI h1 A ∧ xE h1 ∧ xF h h1 := by
  have L := I.1
  have S := I.S
  have rf : ∀ v : Int32, ∃ h1, some (some (Value.int v), h) = some (some (Value.int v), h1) ∧ cI h1 A ∧ xE h1 ∧ xF h h1 := fun v => ⟨h, rfl, I, C, xF.rf⟩
  rw [am_b69_0, if_pos L.k1, c_isCell I, x_bI, x_ite]
  unfold f_cell
  by_cases h2 : q_cellok A.1.1 r q
  · rw [if_pos h2, if_pos h2]
    obtain ⟨r, q, rfl, rfl, e2, e3, -, -, hc1, hc⟩ := q_cell I.c3 h2
    rw [e2, e3, if_pos L.k1, L.n, x_oe, if_pos S.1, s_cellAt S, x_bI]
    generalize A.1.1 * r + q = k at hc hc1
    by_cases y0 : y = nI 0
    · rw [if_pos y0, if_pos y0, if_pos L.k1, L.n, x_oe, if_pos S.1, y0, s_gain S (by omega) hc, x_bI, I.G (by omega) hc, x_c100]
      exact rf _
    · rw [if_neg y0, if_neg y0]
      by_cases y1 : y = nI 1
      · rw [if_pos y1, if_pos y1, if_pos L.k1, L.n, x_oe, if_pos S.1, y1, s_gain S (by omega) hc, x_bI, I.G (by omega) hc, x_c100]
        exact rf _
      · rw [if_neg y1, if_neg y1]
        by_cases y2 : y = nI 2
        · rw [if_pos y2, if_pos y2, if_pos L.k1, L.n, x_oe, if_pos S.1, S.2.2.1, x_oe, s_amount S.2.2.2.2.2.1.1 (by rw [S.2.2.2.2.2.1.2]; omega) (by omega), if_pos (by rw [S.2.2.2.2.2.1.2]; exact hc), x_bI]
          have : am_I h (2 + 2) k = A.1.2.2.2.1 k := I.W hc
          rw [this]
          exact rf _
        · rw [if_neg y2, if_neg y2]
          by_cases y3 : y = nI 3
          · rw [if_pos y3, if_pos y3, if_pos L.k1, L.n, x_oe, if_pos S.1, S.2.2.2.1, x_oe, s_amount S.2.2.2.2.2.2.1.1 (by rw [S.2.2.2.2.2.2.1.2]; omega) (by omega), if_pos (by rw [S.2.2.2.2.2.2.1.2]; exact hc), x_bI]
            have : am_I h (2 + 3) k = A.1.2.2.2.2 k := I.F hc
            rw [this]
            exact rf _
          · rw [if_neg y3, if_neg y3]
            by_cases y4 : y = nI 4
            · rw [if_pos y4, if_pos y4, if_pos L.k1, L.n, x_oe, if_pos S.1, c_isSure I hc1, x_bI]
              rcases q_sure_01 (c := A.1.1) (k := k) (g := q_g A.1) with hs | hs
              · rw [hs, if_pos rfl]; exact rf _
              · rw [hs, if_neg (by decide)]; exact rf _
            · rw [if_neg y4, if_neg y4]
              by_cases y5 : y = nI 5
              · obtain ⟨h1, b, τ, e1, I1, C1, f1, W⟩ := c_work I C w
                rw [if_pos y5, if_pos y5, if_pos L.k1, L.e, x_oe, if_pos L.k1, L.n, x_oe, if_pos L.k6, e1, x_bA, if_pos W.1.1.k, x_anyC W, x_bI]
                exact ⟨h1, rfl, I1, C1, f1⟩
              · rw [if_neg y5, if_neg y5]
                exact rf _
  · rw [if_neg h2, if_neg h2]
    exact rf _
theorem c_count (I : cI h A) (C : xE h) (w : q_wf A.1) (x : Int32) : ∃ h1, am_ev 71 0 [.ref 1, .int x] [] h = some (some (.int (f_count A x)), h1) ∧ cI h1 A ∧ xE h1 ∧ xF h h1 := by
  have L := I.1
  have S := I.S
  have h6 := I.c6
  have h8 := q_nq_le I.c3
  have rf : ∀ v : Int32, ∃ h1, some (some (Value.int v), h) = some (some (Value.int v), h1) ∧ cI h1 A ∧ xE h1 ∧ xF h h1 := fun v => ⟨h, rfl, I, C, xF.rf⟩
  have hbr : am_ev 57 0 [.ref 2, am_ph, am_ph] [] h = some (some (.int (nI (q_cnt (q_nq A.1.1) fun q => q_lf A.1.1 (q_g A.1) A.1.2.2.2.1 q < 0))), h) := by
    rw [s_broken S]
    congr 5
    exact q_cnt_congr (fun q hq => by rw [q_lf_congr (w := am_I h (2 + 2)) I.c3 hq I.G' (fun k hk => I.W hk)])
  have hpts : ∀ p, p < 2 → am_ev 50 0 [.ref 2, .ref 5, .int (nI p), am_ph, am_ph] [] h = some (some (.int (q_sum (2 * A.1.1) fun k => A.1.2.2.2.2 k * q_gb (q_g A.1) p k)), h) := fun p hp => by
    rw [s_pointsBy S S.2.2.2.2.2.2.1.1 S.2.2.2.2.2.2.1.2 (show p < 3 by omega)]
    congr 4
    refine q_sum_congr (fun k hk => ?_)
    have : am_I h (2 + 3) k = A.1.2.2.2.2 k := I.F (by omega)
    rw [this]
    congr 1
    unfold q_gb
    rw [if_neg (by omega), if_neg (by omega), I.G (by omega) (by omega)]
  rw [am_b71_0]
  unfold f_count
  by_cases y0 : x = nI 0
  · rw [if_pos y0, if_pos y0, if_pos L.k1, L.n, x_oe, if_pos S.1, S.2.2.2.2.2.2.2.1]
    exact rf _
  rw [if_neg y0, if_neg y0]
  by_cases y1 : x = nI 1
  · rw [if_pos y1, if_pos y1, if_pos L.k1, L.n, x_oe, if_pos S.1, s_cells S, x_bI]
    exact rf _
  rw [if_neg y1, if_neg y1]
  by_cases y2 : x = nI 2
  · rw [if_pos y2, if_pos y2, if_pos L.k1, L.n, x_oe, if_pos S.1, s_inequalities S, x_bI]
    exact rf _
  rw [if_neg y2, if_neg y2]
  by_cases y3 : x = nI 3
  · rw [if_pos y3, if_pos y3, if_pos L.k1, L.n, x_oe, if_pos S.1, S.2.2.1, x_oe, I.sW, x_bI, w.sW6]
    exact rf _
  rw [if_neg y3, if_neg y3]
  by_cases y4 : x = nI 4
  · rw [if_pos y4, if_pos y4, if_pos L.k1, L.n, x_oe, if_pos S.1, hbr, x_bI]
    have hle := q_cnt_le (q_nq A.1.1) fun q => q_lf A.1.1 (q_g A.1) A.1.2.2.2.1 q < 0
    have he := x_eq0 (show (q_cnt (q_nq A.1.1) fun q => q_lf A.1.1 (q_g A.1) A.1.2.2.2.1 q < 0) < 2147483648 by omega)
    simp only [he]
    by_cases hz : (q_cnt (q_nq A.1.1) fun q => q_lf A.1.1 (q_g A.1) A.1.2.2.2.1 q < 0) = 0
    · rw [if_pos hz, if_pos hz]; exact rf _
    · rw [if_neg hz, if_neg hz]; exact rf _
  rw [if_neg y4, if_neg y4]
  by_cases y5 : x = nI 5
  · rw [if_pos y5, if_pos y5, if_pos L.k1, L.n, x_oe, if_pos S.1, hbr, x_bI]
    exact rf _
  rw [if_neg y5, if_neg y5]
  by_cases y6 : x = nI 6
  · obtain ⟨h1, b, τ, e1, I1, C1, f1, W⟩ := c_work I C w
    rw [if_pos y6, if_pos y6, if_pos L.k1, L.e, x_oe, if_pos L.k1, L.n, x_oe, if_pos L.k6, e1, x_bA, if_pos W.1.1.k, W.1.2.1]
    exact ⟨h1, rfl, I1, C1, f1⟩
  rw [if_neg y6, if_neg y6]
  by_cases y7 : x = nI 7
  · rw [if_pos y7, if_pos y7, if_pos L.k1, L.n, x_oe, if_pos S.1, S.2.2.2.1, x_oe, I.sF, x_bI, w.sF6]
    exact rf _
  rw [if_neg y7, if_neg y7]
  by_cases y8 : x = nI 8
  · rw [if_pos y8, if_pos y8, if_pos L.k1, L.n, x_oe, if_pos L.k1, x_oe, if_pos S.1, S.2.2.2.1, x_oe, if_pos S.1, y8, x_c8, x_sub (by omega), hpts 0 (by omega), x_bI]
    exact rf _
  rw [if_neg y8, if_neg y8]
  by_cases y9 : x = nI 9
  · rw [if_pos y9, if_pos y9, if_pos L.k1, L.n, x_oe, if_pos L.k1, x_oe, if_pos S.1, S.2.2.2.1, x_oe, if_pos S.1, y9, x_c8, x_sub (by omega), hpts 1 (by omega), x_bI]
    exact rf _
  rw [if_neg y9, if_neg y9]
  by_cases y10 : x = nI 10
  · rw [if_pos y10, if_pos y10, if_pos L.k1, L.n, x_oe, if_pos S.1, I.2.2.1.2.1]
    exact rf _
  rw [if_neg y10, if_neg y10]
  by_cases y11 : x = nI 11
  · rw [if_pos y11, if_pos y11, if_pos L.k1, L.p, x_oe, if_pos L.k15, I.2.2.2.2.2.1]
    exact rf _
  rw [if_neg y11, if_neg y11]
  by_cases y12 : x = nI 12
  · rw [if_pos y12, if_pos y12, if_pos L.k1, I.2.2.2.1.1]
    exact rf _
  rw [if_neg y12, if_neg y12]
  exact rf _
end cx2
