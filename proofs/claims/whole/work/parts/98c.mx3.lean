/-! ===== the Model: count, take, mix ===== -/
section mx3
variable {h : AH} {A : QA}
theorem m_count (I : mI h A) (X : mE h A.1) (w : q_wf A.1) (x : Int32) : ∃ h1, am_ev 148 0 [.ref 20, .int x] [] h = some (some (.int (f_count A x)), h1) ∧ mI h1 A ∧ mfr h h1 ∧ mE h1 A.1 := by
  have mm := I.1
  have h3 := I.c3
  have h6 := I.c6
  have h8 := q_nq_le h3
  have rf : ∀ v : Int32, ∃ h1, some (some (Value.int v), h) = some (some (Value.int v), h1) ∧ mI h1 A ∧ mfr h h1 ∧ mE h1 A.1 := fun v => ⟨h, rfl, I, am_fr.rf, X⟩
  have hbr : am_ev 109 0 [.ref 20, am_ph, am_ph] [] h = some (some (.int (nI (q_cnt (q_nq A.1.1) fun q => q_lf A.1.1 (q_g A.1) A.1.2.2.2.1 q < 0))), mKs h A.1.1 (q_nq A.1.1)) := by
    rw [m_broken mm I.c h3]
    congr 5
    exact q_cnt_congr (fun q hq => by
      have : q_lh A.1.1 (mG h) q (fun k => am_I h 21 (14 + k)) = q_lf A.1.1 (q_g A.1) A.1.2.2.2.1 q := q_lf_congr (w := fun k => am_I h 21 (14 + k)) h3 hq I.G' (fun k hk => I.W hk)
      rw [this])
  have rk : ∀ v : Int32, ∃ h1, some (some (Value.int v), mKs h A.1.1 (q_nq A.1.1)) = some (some (Value.int v), h1) ∧ mI h1 A ∧ mfr h h1 ∧ mE h1 A.1 := fun v => ⟨_, rfl, I.Ks, mfr_Ks, X.kp mxk_Ks rfl rfl⟩
  rw [am_b148_0]
  unfold f_count
  by_cases y0 : x = nI 0
  · rw [if_pos y0, if_pos y0, if_pos mm.k, m_columns mm, I.c, x_bI]
    exact rf _
  rw [if_neg y0, if_neg y0]
  by_cases y1 : x = nI 1
  · rw [if_pos y1, if_pos y1, if_pos mm.k, m_cells mm I.c, x_bI]
    exact rf _
  rw [if_neg y1, if_neg y1]
  by_cases y2 : x = nI 2
  · rw [if_pos y2, if_pos y2, if_pos mm.k, m_inequalities mm I.c h3, x_bI]
    exact rf _
  rw [if_neg y2, if_neg y2]
  by_cases y3 : x = nI 3
  · rw [if_pos y3, if_pos y3, if_pos mm.k, m_sumOfWeights mm I.c h3, x_bI, I.sW]
    exact rf _
  rw [if_neg y3, if_neg y3]
  by_cases y4 : x = nI 4
  · rw [if_pos y4, if_pos y4, if_pos mm.k, hbr, x_bI]
    have hle := q_cnt_le (q_nq A.1.1) fun q => q_lf A.1.1 (q_g A.1) A.1.2.2.2.1 q < 0
    have he := x_eq0 (show (q_cnt (q_nq A.1.1) fun q => q_lf A.1.1 (q_g A.1) A.1.2.2.2.1 q < 0) < 2147483648 by omega)
    simp only [he]
    by_cases hz : (q_cnt (q_nq A.1.1) fun q => q_lf A.1.1 (q_g A.1) A.1.2.2.2.1 q < 0) = 0
    · rw [if_pos hz, if_pos hz]; exact rk _
    · rw [if_neg hz, if_neg hz]; exact rk _
  rw [if_neg y4, if_neg y4]
  by_cases y5 : x = nI 5
  · rw [if_pos y5, if_pos y5, if_pos mm.k, hbr, x_bI]
    exact rk _
  rw [if_neg y5, if_neg y5]
  by_cases y6 : x = nI 6
  · obtain ⟨h1, e1, I1, f1, X1, Z⟩ := m_lay I X w
    rw [if_pos y6, if_pos y6, if_pos mm.k, am_b147_0, if_pos mm.k, e1, x_bV, if_pos I1.1.k, x_bI, Z.1]
    exact ⟨h1, rfl, I1, f1, X1⟩
  rw [if_neg y6, if_neg y6]
  by_cases y7 : x = nI 7
  · rw [if_pos y7, if_pos y7, if_pos mm.k, m_throwsSoFar mm I.c h3, x_bI, I.sF]
    exact rf _
  rw [if_neg y7, if_neg y7]
  by_cases y8 : x = nI 8
  · rw [if_pos y8, if_pos y8, if_pos mm.k, y8, x_c8, x_sub (by omega), m_got I (by omega), x_bI]
    exact rf _
  rw [if_neg y8, if_neg y8]
  by_cases y9 : x = nI 9
  · rw [if_pos y9, if_pos y9, if_pos mm.k, y9, x_c8, x_sub (by omega), m_got I (by omega), x_bI]
    exact rf _
  rw [if_neg y9, if_neg y9]
  by_cases y10 : x = nI 10
  · rw [if_pos y10, if_pos y10, if_pos mm.k, mm.r0, x_oe, x_c1, x_cl (by omega), if_pos (x_rdc mm.k0 mm.l0 (by omega) (by omega)), I.2.1.2.1]
    exact rf _
  rw [if_neg y10, if_neg y10]
  by_cases y11 : x = nI 11
  · rw [if_pos y11, if_pos y11, if_pos mm.k, I.pn.1]
    exact rf _
  rw [if_neg y11, if_neg y11]
  by_cases y12 : x = nI 12
  · rw [if_pos y12, if_pos y12, if_pos mm.k, I.2.2.2.1.1]
    exact rf _
  rw [if_neg y12, if_neg y12]
  exact rf _
theorem m_mixes {i : Nat} {x y : Int32} (I : mI h A) (X : mE h A.1) (Z : mZ h A.1) (w : q_wf A.1) (hi : i < q_N A.1) (ok : q_mixok x y) : ∃ h1, am_ev 132 0 [.ref 20, .int (nI i), .int x, .int y, am_ph] [] h = some (some (.int (f_mixes A i x y)), h1) ∧ mI h1 (g_mixes A i x y) ∧ mfr h h1 ∧ mE h1 (g_mixes A i x y).1 := by
  have mm := I.1
  have h3 := I.c3
  have h6 := I.c6
  have hN := Z.N
  unfold f_mixes g_mixes
  have key1 : ∀ d j, j + d = 2 * A.1.1 → (∀ k, k < j → ¬ (999 : Int64) < q_mixd A.1 i x y k) → ((∃ k, k < 2 * A.1.1 ∧ (999 : Int64) < q_mixd A.1 i x y k) ∧ am_ev 132 3 [.ref 20, .int (nI i), .int x, .int y, .int (nI j)] [] h = some (some (.int (-4)), h)) ∨ (¬ (∃ k, k < 2 * A.1.1 ∧ (999 : Int64) < q_mixd A.1 i x y k) ∧ am_ev 132 3 [.ref 20, .int (nI i), .int x, .int y, .int (nI j)] [] h = am_bV (am_ev 97 0 [.ref 20, am_ph] [] h) (fun h5 => am_ev 132 65 [.ref 20, .int (nI i), .int x, .int y, .int (0 : Int32)] [] h5)) := by
    intro d
    induction d with
    | zero =>
      intro j hj hn
      right
      refine ⟨fun ⟨k, hk, z⟩ => hn k (by omega) z, ?_⟩
      rw [am_b132_3, if_pos mm.k, m_cells mm I.c, x_bI, if_neg (by rw [x_lt (by omega) (by omega)]; omega), if_pos mm.k]
    | succ d ih =>
      intro j hj hn
      have ev : Int32.toInt64 x * Int32.toInt64 (A.1.2.2.2.1 j) + Int32.toInt64 y * q_E A.1 i j = q_mixd A.1 i x y j := rfl
      rw [am_b132_3, if_pos mm.k, m_cells mm I.c, x_bI, if_pos (by rw [x_lt (by omega) (by omega)]; omega), if_pos mm.k, mm.r0, x_oe, x_c14, nI_add, x_cl (by omega), if_pos (x_rdc mm.k0 mm.l0 (by omega) (by omega)), if_pos mm.k, mm.r8, x_oe, x_c6, pk_mul, nI_add, x_cl (by omega), if_pos ⟨mm.k8, fun z => z.elim (nI_pos (by omega)) (by rw [mm.l8]; omega)⟩, I.W (by omega), Z.2.1 i hi j (by omega), ev]
      simp only [lg_cmp_gt]
      rw [nI_1]
      by_cases h1 : (999 : Int64) < q_mixd A.1 i x y j
      · left
        rw [if_pos h1]
        exact ⟨⟨j, by omega, h1⟩, rfl⟩
      · rw [if_neg h1]
        exact ih (j + 1) (by omega) (fun k hk => by
          by_cases e : k = j
          · rw [e]; exact h1
          · exact hn k (by omega))
  rw [am_b132_0]
  have k1 := key1 (2 * A.1.1) 0 (by omega) (fun k hk => by omega)
  rw [nI_0] at k1
  rcases k1 with ⟨hx, e⟩ | ⟨hx, e⟩
  · rw [z_pif_pos hx, z_pif_pos hx]
    exact ⟨h, e, I, am_fr.rf, X⟩
  · rw [z_pif_neg hx, z_pif_neg hx, e]
    obtain ⟨h2, e2, I2, f2, xk2, -⟩ := I.rec
    have Z2 : mZ h2 A.1 := Z.same xk2.1 xk2.2.2.1 xk2.2.2.2
    have X2 := X.kp xk2 rfl rfl
    have key2 : ∀ d j, j + d = 2 * A.1.1 → ∀ (M : AH), mI M ((A.1.1, A.1.2.1, A.1.2.2.1, fun k => if k < j then (q_mixd A.1 i x y k).toInt32 else A.1.2.2.2.1 k, A.1.2.2.2.2), q_rec A, A.2.2) → mxk h2 M → ∃ M1, am_ev 132 65 [.ref 20, .int (nI i), .int x, .int y, .int (nI j)] [] M = some (some (.int (q_sum (2 * A.1.1) (q_mixw A.1 i x y).2.2.2.1)), M1) ∧ mI M1 (q_mixw A.1 i x y, q_rec A, A.2.2) ∧ mfr M M1 ∧ mxk h2 M1 := by
      intro d
      induction d with
      | zero =>
        intro j hj M IM xM
        obtain rfl : j = 2 * A.1.1 := by omega
        have mM := IM.1
        have cM : am_I M 21 0 = nI A.1.1 := IM.c
        refine ⟨M, ?_, IM, am_fr.rf, xM⟩
        rw [am_b132_65, if_pos mM.k, m_cells mM cM, x_bI, if_neg (by rw [x_lt (by omega) (by omega)]; omega), if_pos mM.k, m_sumOfWeights mM cM h3, x_bI]
        have es : (q_sum (2 * A.1.1) fun k => am_I M 21 (14 + k)) = q_sum (2 * A.1.1) (q_mixw A.1 i x y).2.2.2.1 := q_sum_congr (fun k hk => IM.W (by omega))
        rw [es]
      | succ d ih =>
        intro j hj M IM xM
        have mM := IM.1
        have cM : am_I M 21 0 = nI A.1.1 := IM.c
        have ZM : mZ M A.1 := Z2.same xM.1 xM.2.2.1 xM.2.2.2
        have ew : am_I M 21 (14 + j) = A.1.2.2.2.1 j := by
          rw [IM.W (by omega)]
          dsimp only
          rw [if_neg (by omega)]
        have ev : Int32.toInt64 x * Int32.toInt64 (A.1.2.2.2.1 j) + Int32.toInt64 y * q_E A.1 i j = q_mixd A.1 i x y j := rfl
        have hf : am_ud (fun k => if k < j then (q_mixd A.1 i x y k).toInt32 else A.1.2.2.2.1 k) j (q_mixd A.1 i x y j).toInt32 = fun k => if k < j + 1 then (q_mixd A.1 i x y k).toInt32 else A.1.2.2.2.1 k := by
          funext k
          by_cases e : k = j
          · rw [e, am_ud_eq, if_pos (by omega)]
          · rw [am_ud_ne e]
            by_cases e2 : k < j
            · rw [if_pos e2, if_pos (by omega)]
            · rw [if_neg e2, if_neg (by omega)]
        have I3 : mI (am_sI M 21 (14 + j) (q_mixd A.1 i x y j).toInt32) ((A.1.1, A.1.2.1, A.1.2.2.1, am_ud (fun k => if k < j then (q_mixd A.1 i x y k).toInt32 else A.1.2.2.2.1 k) j (q_mixd A.1 i x y j).toInt32, A.1.2.2.2.2), q_rec A, A.2.2) := IM.row rfl rfl am_sI_I (hV.w IM.2.1 (by omega) _) IM.c3 (am_sI_ne (by omega)) (am_sI_ne (by omega)) (am_sI_ne (by omega)) (am_sI_ne (by omega)) (by rw [am_sI_ne (by omega)]) (by rw [am_sI_ne (by omega)])
        rw [hf] at I3
        obtain ⟨M1, e1, I1, f1, x1⟩ := ih (j + 1) (by omega) _ I3 (xM.tr ⟨by rw [am_sI_ne (by omega)], by rw [am_sI_ne (by omega)], rfl, rfl⟩)
        refine ⟨M1, ?_, I1, am_fr.tr (am_sI_fr (by omega)) f1, x1⟩
        rw [am_b132_65, if_pos mM.k, m_cells mM cM, x_bI, if_pos (by rw [x_lt (by omega) (by omega)]; omega), if_pos mM.k, mM.r0, x_oe, if_pos mM.k, x_oe, x_c14, nI_add, x_cl (by omega), if_pos (x_rdc mM.k0 mM.l0 (by omega) (by omega)), if_pos mM.k, mM.r8, x_oe, x_c6, pk_mul, nI_add, x_cl (by omega), if_pos ⟨mM.k8, fun z => z.elim (nI_pos (by omega)) (by rw [mM.l8]; omega)⟩, if_pos (x_wrc mM.k0 mM.l0 (by omega) (by omega)), ew, ZM.2.1 i hi j (by omega), ev, nI_1]
        exact e1
    obtain ⟨M1, e3, I3, f3, x3⟩ := key2 (2 * A.1.1) 0 (by omega) h2 (by
      have : (fun k => if k < 0 then (q_mixd A.1 i x y k).toInt32 else A.1.2.2.2.1 k) = A.1.2.2.2.1 := by funext k; rw [if_neg (by omega)]
      rw [this]
      exact I2) mxk.rf
    rw [nI_0] at e3
    rw [e2, x_bV]
    exact ⟨M1, e3, I3, f2.tr f3, X2.kp x3 rfl rfl⟩
theorem m_take (I : mI h A) (X : mE h A.1) (w : q_wf A.1) (x : Int32) : ∃ h1, am_ev 133 0 [.ref 20, .int x] [] h = some (some (.int (f_take A x)), h1) ∧ mI h1 (g_take A x) ∧ mfr h h1 ∧ mE h1 (g_take A x).1 := by
  obtain ⟨h1, e1, I1, f1, X1, Z⟩ := m_isEx I X w x
  rw [am_b133_0, if_pos I.1.k, e1, x_bI, x_ite]
  unfold f_take g_take
  by_cases h0 : 0 ≤ x.toInt ∧ x.toInt < q_N A.1
  · obtain ⟨i, rfl, ei, -⟩ := q_nI h0.1
    have ev : q_vI (nI i) = i := by unfold q_vI; omega
    rw [if_pos h0, if_pos h0, if_pos h0, ev, if_pos I1.1.k]
    obtain ⟨h2, e2, I2, f2, X2⟩ := m_mixes (x := 0) (y := 1) I1 X1 Z w (show i < q_N A.1 by omega) ⟨by decide, by decide, by decide⟩
    rw [e2, x_bI]
    exact ⟨h2, rfl, I2, f1.tr f2, X2⟩
  · rw [if_neg h0, if_neg h0, if_neg h0]
    exact ⟨h1, rfl, I1, f1, X1⟩
theorem m_mix (I : mI h A) (X : mE h A.1) (w : q_wf A.1) (n x y : Int32) : ∃ h1, am_ev 134 0 [.ref 20, .int n, .int x, .int y] [] h = some (some (.int (f_mix A n x y)), h1) ∧ mI h1 (g_mix A n x y) ∧ mfr h h1 ∧ mE h1 (g_mix A n x y).1 := by
  obtain ⟨h1, e1, I1, f1, X1, Z⟩ := m_isEx I X w n
  rw [am_b134_0, if_pos I.1.k, e1, x_bI, x_ite]
  unfold f_mix g_mix
  by_cases h0 : 0 ≤ n.toInt ∧ n.toInt < q_N A.1
  · obtain ⟨i, rfl, ei, -⟩ := q_nI h0.1
    have ev : q_vI (nI i) = i := by unfold q_vI; omega
    rw [if_pos h0, if_pos h0, if_pos h0, ev, m_in (p := 0) (q := 9) rfl rfl, x_bI, x_ite]
    by_cases hx : 0 ≤ x.toInt ∧ x.toInt ≤ 9
    · rw [if_pos hx, m_in (p := 0) (q := 9) rfl rfl, x_bI, x_ite]
      by_cases hy : 0 ≤ y.toInt ∧ y.toInt ≤ 9
      · rw [if_pos hy]
        by_cases hz : x = 0 ∧ y = 0
        · rw [if_pos hz.1, if_pos hz.2, if_neg (fun z => z.2.2 hz), if_neg (fun z => z.2.2 hz)]
          exact ⟨h1, rfl, I1, f1, X1⟩
        · have ok : q_mixok x y := ⟨hx, hy, hz⟩
          rw [if_pos ok, if_pos ok]
          obtain ⟨h2, e2, I2, f2, X2⟩ := m_mixes I1 X1 Z w (show i < q_N A.1 by omega) ok
          rw [if_pos I1.1.k, e2, x_bI]
          refine ⟨h2, ?_, I2, f1.tr f2, X2⟩
          by_cases hx0 : x = 0
          · rw [if_pos hx0, if_neg (fun z => hz ⟨hx0, z⟩)]
          · rw [if_neg hx0]
      · rw [if_neg hy, if_neg (fun z => hy z.2.1), if_neg (fun z => hy z.2.1)]
        exact ⟨h1, rfl, I1, f1, X1⟩
    · rw [if_neg hx, if_neg (fun z => hx z.1), if_neg (fun z => hx z.1)]
      exact ⟨h1, rfl, I1, f1, X1⟩
  · rw [if_neg h0, if_neg h0, if_neg h0]
    exact ⟨h1, rfl, I1, f1, X1⟩
end mx3
