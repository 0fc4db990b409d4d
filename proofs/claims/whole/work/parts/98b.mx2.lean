/-! ===== the Model: extreme, best, neverTold, cell, count, take, mix ===== -/
section mx2
variable {h : AH} {A : QA}
theorem m_extreme (I : mI h A) (X : mE h A.1) (w : q_wf A.1) (x y : Int32) : ∃ h1, am_ev 151 0 [.ref 20, .int x, .int y] [] h = some (some (.int (f_extreme A x y)), h1) ∧ mI h1 A ∧ mfr h h1 ∧ mE h1 A.1 := by
  have h6 := I.c6
  obtain ⟨h1, e1, I1, f1, X1, Z⟩ := m_isEx I X w x
  have hN := Z.N
  have mm := I1.1
  rw [am_b151_0, if_pos I.1.k, e1, x_bI, x_ite]
  unfold f_extreme
  by_cases h0 : 0 ≤ x.toInt ∧ x.toInt < q_N A.1
  · obtain ⟨i, rfl, ei, -⟩ := q_nI h0.1
    have ev : q_vI (nI i) = i := by unfold q_vI; omega
    have hi : i < q_N A.1 := by omega
    have hq : ((nI (2 * A.1.1) - (1 : Int32)).toInt64).toInt = 2 * (A.1.1 : Int) - 1 := by
      rw [x_c1, x_sub (by rcases I.c3 with e | e <;> omega), x_l, nI_toInt (by omega)]
      rcases I.c3 with e | e <;> omega
    rw [if_pos h0, if_pos h0, if_pos mm.k, m_cells mm I1.c, x_bI, m_in (p := 0) (q := 2 * (A.1.1 : Int) - 1) rfl hq, x_bI, ev]
    by_cases hy : 0 ≤ y.toInt ∧ y.toInt < 2 * (A.1.1 : Int)
    · obtain ⟨k, rfl, ek, -⟩ := q_nI hy.1
      have evk : q_vI (nI k) = k := by unfold q_vI; omega
      rw [if_pos (show 0 ≤ (nI k).toInt ∧ (nI k).toInt ≤ 2 * (A.1.1 : Int) - 1 by omega), if_neg (by decide), if_pos mm.k, mm.r8, x_oe, x_c6, pk_mul, nI_add, x_cl (by omega), if_pos ⟨mm.k8, fun z => z.elim (nI_pos (by omega)) (by rw [mm.l8]; omega)⟩, if_pos hy, evk, Z.2.1 i hi k (by omega)]
      exact ⟨h1, rfl, I1, f1, X1⟩
    · rw [if_neg (show ¬ (0 ≤ y.toInt ∧ y.toInt ≤ 2 * (A.1.1 : Int) - 1) by omega), if_pos rfl, if_neg hy, x_c6]
      by_cases y6 : y = nI 6
      · rw [if_pos y6, if_pos y6, if_pos mm.k, mm.r9, x_oe, x_cl (by omega), if_pos ⟨mm.k9, fun z => z.elim (nI_pos (by omega)) (by rw [mm.l9]; omega)⟩, Z.2.2.1 i hi]
        exact ⟨h1, rfl, I1, f1, X1⟩
      · rw [if_neg y6, if_neg y6, show (7 : Int32) = nI 7 from rfl]
        by_cases y7 : y = nI 7
        · rw [if_pos y7, if_pos y7, if_pos mm.k, m_told I1 Z hi, x_bI]
          exact ⟨h1, rfl, I1, f1, X1⟩
        · rw [if_neg y7, if_neg y7, x_c8]
          by_cases y8 : y = nI 8
          · obtain ⟨h2, e2, l2⟩ := m_tset I1 Z w hi
            rw [if_pos y8, if_pos y8, if_pos mm.k, e2, x_bI]
            exact ⟨h2, rfl, l2.sc.I I1, f1.tr l2.sc.fr, l2.x X1⟩
          · rw [if_neg y8, if_neg y8]
            exact ⟨h1, rfl, I1, f1, X1⟩
  · rw [if_neg h0, if_neg h0]
    exact ⟨h1, rfl, I1, f1, X1⟩
theorem m_best (I : mI h A) (X : mE h A.1) (w : q_wf A.1) (x y : Int32) : ∃ h1, am_ev 153 0 [.ref 20, .int x, .int y, am_ph, am_ph] [] h = some (some (.int (f_best A x y)), h1) ∧ mI h1 A ∧ mfr h h1 ∧ mE h1 A.1 := by
  rw [am_b153_0, m_in (p := 0) (q := 2) rfl rfl, x_bI, x_ite]
  unfold f_best
  by_cases h0 : 0 ≤ x.toInt ∧ x.toInt ≤ 2
  · rw [if_pos h0, if_pos h0, m_in (p := 0) (q := 1) rfl rfl, x_bI, x_ite]
    by_cases hy : 0 ≤ y.toInt ∧ y.toInt ≤ 1
    · rw [if_pos hy, if_pos hy, if_pos I.1.k]
      obtain ⟨p, rfl, ep, -⟩ := q_nI h0.1
      have ev : q_vI (nI p) = p := by unfold q_vI; omega
      have hp : p < 3 := by omega
      obtain ⟨h1, e1, I1, f1, X1, Z⟩ := m_lay I X w
      have hN := Z.N
      have mm := I1.1
      rw [e1, x_bV, ev]
      have key : ∀ d k l, k + d = q_N A.1 → l < q_N A.1 → am_ev 153 34 [.ref 20, .int (nI p), .int y, .int (nI l), .int (nI k)] [] h1 = some (some (.int (if y = 0 then nI (q_bst A.1 p d k l) else q_thou (f_pts A.1 (q_bst A.1 p d k l) p) (f_sumE A.1 (q_bst A.1 p d k l)))), h1) := by
        intro d
        induction d with
        | zero =>
          intro k l hk hl
          have eb : q_bst A.1 p 0 k l = l := rfl
          rw [am_b153_34, if_pos mm.k, Z.1, if_neg (by rw [x_lt (by omega) (by omega)]; omega), eb]
          by_cases h1' : y = 0
          · rw [if_pos h1', if_pos h1']
          · rw [if_neg h1', if_neg h1', if_pos mm.k, m_pts I1 Z hl hp, x_bJ, if_pos mm.k, mm.r9, x_oe, x_cl (by omega), if_pos ⟨mm.k9, fun z => z.elim (nI_pos (by omega)) (by rw [mm.l9]; omega)⟩, Z.2.2.1 l hl, m_divide (m_sumPos w Z hl), x_bJ]
            rfl
        | succ d ih =>
          intro k l hk hl
          rw [am_b153_34, if_pos mm.k, Z.1, if_pos (by rw [x_lt (by omega) (by omega)]; omega), if_pos mm.k, m_pts I1 Z (by omega) hp, x_bJ, if_pos mm.k, mm.r9, x_oe, x_cl (by omega), if_pos ⟨mm.k9, fun z => z.elim (nI_pos (by omega)) (by rw [mm.l9]; omega)⟩, if_pos mm.k, m_pts I1 Z hl hp, x_bJ, if_pos mm.k, mm.r9, x_oe, x_cl (by omega), if_pos ⟨mm.k9, fun z => z.elim (nI_pos (by omega)) (by rw [mm.l9]; omega)⟩, Z.2.2.1 l hl, Z.2.2.1 k (by omega), nI_1]
          simp only [lg_cmp_gt]
          have e : q_bst A.1 p (d + 1) k l = q_bst A.1 p d (k + 1) (if f_pts A.1 l p * f_sumE A.1 k < f_pts A.1 k p * f_sumE A.1 l then k else l) := rfl
          rw [e]
          by_cases h1' : f_pts A.1 l p * f_sumE A.1 k < f_pts A.1 k p * f_sumE A.1 l
          · rw [if_pos h1', if_pos h1']
            exact ih (k + 1) k (by omega) (by omega)
          · rw [if_neg h1', if_neg h1']
            exact ih (k + 1) l (by omega) hl
      have k0 := key (q_N A.1 - 1) 1 0 (by omega) hN.1
      rw [nI_0] at k0
      refine ⟨h1, ?_, I1, f1, X1⟩
      rw [x_c1, k0]
    · rw [if_neg hy, if_neg hy]
      exact ⟨h, rfl, I, am_fr.rf, X⟩
  · rw [if_neg h0, if_neg h0]
    exact ⟨h, rfl, I, am_fr.rf, X⟩
theorem m_never (I : mI h A) (X : mE h A.1) (w : q_wf A.1) (x : Int32) : ∃ h1, am_ev 154 0 [.ref 20, .int x, am_ph, am_ph, am_ph, am_ph] [] h = some (some (.int (f_never A x)), h1) ∧ mI h1 A ∧ mfr h h1 ∧ mE h1 A.1 := by
  have h3 := I.c3
  have h6 := I.c6
  rw [am_b154_0, m_in (p := 0) (q := 1) rfl rfl, x_bI, x_ite]
  unfold f_never
  by_cases h0 : 0 ≤ x.toInt ∧ x.toInt ≤ 1
  · obtain ⟨p, rfl, ev, hp⟩ := q_pl2 h0
    obtain ⟨h1, e1, I1, f1, X1⟩ := m_any I X w
    have mm := I1.1
    have hp0 : (nI p = 0) = (p = 0) := x_eq0 (by omega)
    have hcn : ¬ nI A.1.1 = 0 := nI_ne0 (by omega) (by omega)
    rw [if_pos h0, if_pos h0, if_pos I.1.k, e1, x_bI, ev]
    generalize f_any A.1 = a
    let MV : Nat → Int32 := fun k => if (a >>> (nI k &&& 31)) &&& (1 : Int32) = (1 : Int32) then (1 : Int32) <<< (nI (q_mv A.1.1 k p) &&& 31) else 0
    have key : ∀ d j, j + d = 2 * A.1.1 → am_ev 154 22 [.ref 20, .int (nI p), .int a, .int (q_or j MV), .int (nI j), am_ph] [] h1 = some (some (.int ((((1 : Int32) <<< (nI (if p = 0 then 2 else A.1.1) &&& 31)) - (1 : Int32)) &&& (q_or (2 * A.1.1) MV ^^^ (-1 : Int32)))), h1) := by
      intro d
      induction d with
      | zero =>
        intro j hj
        obtain rfl : j = 2 * A.1.1 := by omega
        rw [am_b154_22, if_pos mm.k, m_cells mm I1.c, x_bI, if_neg (by rw [x_lt (by omega) (by omega)]; omega)]
        simp only [hp0]
        by_cases e : p = 0
        · rw [if_pos e, if_pos e, Int32.and_comm, x_c2]
        · rw [if_neg e, if_neg e, if_pos mm.k, m_columns mm, I1.c, x_bI, Int32.and_comm]
      | succ d ih =>
        intro j hj
        have i' := ih (j + 1) (by omega)
        rw [q_or_s] at i'
        have e52 : am_ev 154 52 [.ref 20, .int (nI p), .int a, .int (q_or j MV), .int (nI j), am_ph] [.int (nI (q_mv A.1.1 j p))] h1 = am_ev 154 22 [.ref 20, .int (nI p), .int a, .int (q_or j MV ||| MV j), .int (nI (j + 1)), am_ph] [] h1 := by
          rw [am_b154_52, nI_1]
          by_cases e : (a >>> (nI j &&& 31)) &&& (1 : Int32) = (1 : Int32)
          · have : MV j = (1 : Int32) <<< (nI (q_mv A.1.1 j p) &&& 31) := if_pos e
            rw [if_pos e, this]
          · have : MV j = 0 := if_neg e
            rw [if_neg e, this]
        rw [am_b154_22, if_pos mm.k, m_cells mm I1.c, x_bI, if_pos (by rw [x_lt (by omega) (by omega)]; omega)]
        simp only [hp0]
        by_cases e : p = 0
        · have em : nI j / nI A.1.1 = nI (q_mv A.1.1 j p) := by
            rw [x_div (by omega) (by omega), e]
            unfold q_mv
            rw [if_pos rfl]
            congr 1
            by_cases hjc : j < A.1.1
            · rw [if_pos hjc, Nat.div_eq_of_lt hjc]
            · rw [if_neg hjc]
              rcases h3 with z | z
              · rw [z] at hjc hj ⊢; omega
              · rw [z] at hjc hj ⊢; omega
          rw [if_pos e, if_pos mm.k, m_columns mm, I1.c, x_bI, if_neg hcn, em, e52]
          exact i'
        · have em : nI j - nI j / nI A.1.1 * nI A.1.1 = nI (q_mv A.1.1 j p) := by
            have hdm := Nat.div_mul_le_self j A.1.1
            rw [x_div (by omega) (by omega), pk_mul, x_sub hdm]
            unfold q_mv
            rw [if_neg e]
            congr 1
            by_cases hjc : j < A.1.1
            · rw [if_pos hjc, Nat.div_eq_of_lt hjc]; omega
            · rw [if_neg hjc]
              rcases h3 with z | z
              · rw [z] at hjc hj ⊢; omega
              · rw [z] at hjc hj ⊢; omega
          rw [if_neg e, if_pos mm.k, m_columns mm, I1.c, x_bI, if_neg hcn, em, e52]
          exact i'
    have k0 := key (2 * A.1.1) 0 (by omega)
    rw [nI_0] at k0
    simp only [hp0]
    exact ⟨h1, k0, I1, f1, X1⟩
  · rw [if_neg h0, if_neg h0]
    exact ⟨h, rfl, I, am_fr.rf, X⟩
theorem m_cell (I : mI h A) (X : mE h A.1) (w : q_wf A.1) (r q y : Int32) : ∃ h1, am_ev 144 0 [.ref 20, .int r, .int q, .int y, am_ph] [] h = some (some (.int (f_cell A r q y)), h1) ∧ mI h1 A ∧ mfr h h1 ∧ mE h1 A.1 := by
  have mm := I.1
  have h3 := I.c3
  have rf : ∀ v : Int32, ∃ h1, some (some (Value.int v), h) = some (some (Value.int v), h1) ∧ mI h1 A ∧ mfr h h1 ∧ mE h1 A.1 := fun v => ⟨h, rfl, I, am_fr.rf, X⟩
  rw [am_b144_0, if_pos mm.k, m_isCell mm I.c I.c3, x_bI, x_ite]
  unfold f_cell
  by_cases h2 : q_cellok A.1.1 r q
  · rw [if_pos h2, if_pos h2]
    obtain ⟨r, q, rfl, rfl, e2, e3, -, -, hc1, hc⟩ := q_cell I.c3 h2
    rw [e2, e3, if_pos mm.k, m_cellOf mm I.c, x_bI]
    generalize A.1.1 * r + q = k at hc hc1
    by_cases y0 : y = nI 0
    · rw [if_pos y0, if_pos y0, if_pos mm.k, y0, m_pointsOf mm (by omega) hc, x_bI, x_c100]
      have : am_I h 21 (2 + 6 * 0 + k) = q_g A.1 0 k := I.G (by omega) hc
      rw [this]
      exact rf _
    · rw [if_neg y0, if_neg y0]
      by_cases y1 : y = nI 1
      · rw [if_pos y1, if_pos y1, if_pos mm.k, y1, m_pointsOf mm (by omega) hc, x_bI, x_c100]
        have : am_I h 21 (2 + 6 * 1 + k) = q_g A.1 1 k := I.G (by omega) hc
        rw [this]
        exact rf _
      · rw [if_neg y1, if_neg y1]
        by_cases y2 : y = nI 2
        · rw [if_pos y2, if_pos y2, if_pos mm.k, mm.r0, x_oe, x_c14, nI_add, x_cl (by omega), if_pos (x_rdc mm.k0 mm.l0 (by omega) (by omega)), I.W hc]
          exact rf _
        · rw [if_neg y2, if_neg y2]
          by_cases y3 : y = nI 3
          · rw [if_pos y3, if_pos y3, if_pos mm.k, mm.r0, x_oe, x_c20, nI_add, x_cl (by omega), if_pos (x_rdc mm.k0 mm.l0 (by omega) (by omega)), I.F hc]
            exact rf _
          · rw [if_neg y3, if_neg y3]
            by_cases y4 : y = nI 4
            · have e4 := m_isSure mm I.c h3 hc1
              rw [q_sure_congr h3 hc1 I.G'] at e4
              have sc : mSc h (mKs h A.1.1 (q_nq A.1.1)) := by unfold mKs; split; exact mSc.rf; exact mSc.K
              have X4 := X.kp (mxk_Ks (h := h) (c := A.1.1) (j := q_nq A.1.1)) rfl rfl
              rw [if_pos y4, if_pos y4, if_pos mm.k, e4, x_bI]
              rcases q_sure_01 (c := A.1.1) (k := k) (g := q_g A.1) with hs | hs
              · rw [hs, if_pos rfl]; exact ⟨_, rfl, I.Ks, mfr_Ks, X4⟩
              · rw [hs, if_neg (by decide)]; exact ⟨_, rfl, I.Ks, mfr_Ks, X4⟩
            · rw [if_neg y4, if_neg y4]
              by_cases y5 : y = nI 5
              · obtain ⟨h1, e1, I1, f1, X1⟩ := m_any I X w
                rw [if_pos y5, if_pos y5, if_pos mm.k, e1, x_bI]
                exact ⟨h1, rfl, I1, f1, X1⟩
              · rw [if_neg y5, if_neg y5]
                exact rf _
  · rw [if_neg h2, if_neg h2]
    exact rf _
end mx2
