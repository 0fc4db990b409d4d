/-! ===== the class: what there is ===== -/
section class8
variable {h : AH} {A : QA}
theorem cI.G' (I : cI h A) : ∀ p, p < 2 → ∀ k, k < 6 → sG h 2 p k = q_g A.1 p k := fun _ hp _ hk => I.G hp hk
theorem c_isSure (I : cI h A) {k : Nat} (hk : k < 2 * A.1.1) : am_ev 58 0 [.ref 2, .int (nI k), am_ph] [] h = some (some (.int (q_sure A.1.1 (q_g A.1) k)), h) := by
  rw [s_isSure I.S hk]
  exact congrArg (fun x => some (some (Value.int x), h)) (q_sure_congr I.c3 hk I.G')
theorem c_left (I : cI h A) {q r : Nat} {w : Nat → Int32} (hq : q < q_nq A.1.1) (hw : am_kd h r = 5) (hl : am_ln h r = 6) (e : ∀ k, k < 6 → am_I h r k = w k) : am_ev 56 0 [.ref 2, .int (nI q), .ref r, am_ph, am_ph] [] h = some (some (.int (q_lf A.1.1 (q_g A.1) w q)), h) := by
  rw [s_leftSide I.S hw hl hq]
  exact congrArg (fun x => some (some (Value.int x), h)) (q_lf_congr (w := am_I h r) I.c3 hq I.G' e)
theorem c_inequality (I : cI h A) (x y : Int32) : am_ev 70 0 [.ref 1, .int x, .int y] [] h = some (some (.int (f_inequality A x y)), h) := by
  have L := I.1
  have S := I.S
  have hq8 := q_nq_le I.c3
  have e0 : (if x < 0 then some (some (Value.int (-1)), h) else some (some (Value.int (-1)), h)) = some (some (Value.int (-1)), h) := by split <;> rfl
  unfold f_inequality
  rw [am_b70_0]
  simp only [x_lt0I]
  by_cases h1 : 0 ≤ x.toInt
  · rw [if_neg (fun z => z h1), if_pos L.k1, L.n, x_oe, if_pos S.1, s_inequalities S, x_bI]
    obtain ⟨q, rfl, eq, hq⟩ := q_nI h1
    have ev : q_vI (nI q) = q := by unfold q_vI; omega
    rw [ev]
    have hl : (nI q < nI (q_nq A.1.1)) = (q < q_nq A.1.1) := x_lt hq (by omega)
    by_cases h2 : q < q_nq A.1.1
    · rw [if_pos (show nI q < nI (q_nq A.1.1) by rw [hl]; exact h2), if_pos (show 0 ≤ (nI q).toInt ∧ (nI q).toInt ≤ (q_nq A.1.1 : Int) - 1 by omega)]
      by_cases y0 : y = nI 0
      · rw [if_pos y0, if_pos y0, if_pos L.k1, L.n, x_oe, if_pos S.1, s_playerOf (by omega), x_bI]
      · rw [if_neg y0, if_neg y0]
        by_cases y1 : y = nI 1
        · rw [if_pos y1, if_pos y1, if_pos L.k1, L.n, x_oe, if_pos S.1, s_toldMove S h2, x_bI]
        · rw [if_neg y1, if_neg y1]
          by_cases y2 : y = nI 2
          · rw [if_pos y2, if_pos y2, if_pos L.k1, L.n, x_oe, if_pos S.1, s_otherMove S h2, x_bI]
          · rw [if_neg y2, if_neg y2]
            by_cases y3 : y = nI 3
            · rw [if_pos y3, if_pos y3, if_pos L.k1, L.n, x_oe, if_pos L.k1, x_oe, if_pos S.1, S.2.2.1, x_oe, if_pos S.1, c_left I h2 S.2.2.2.2.2.1.1 S.2.2.2.2.2.1.2 (fun k hk => I.W hk), x_bI]
            · rw [if_neg y3, if_neg y3]
              by_cases y4 : y = nI 4
              · rw [if_pos y4, if_pos y4, if_pos L.k1, L.n, x_oe, if_pos L.k1, x_oe, if_pos S.1, S.2.2.2.1, x_oe, if_pos S.1, c_left I h2 S.2.2.2.2.2.2.1.1 S.2.2.2.2.2.2.1.2 (fun k hk => I.F hk), x_bI]
              · rw [if_neg y4, if_neg y4]
    · rw [if_neg (show ¬ nI q < nI (q_nq A.1.1) by rw [hl]; exact h2), if_neg (show ¬ (0 ≤ (nI q).toInt ∧ (nI q).toInt ≤ (q_nq A.1.1 : Int) - 1) by omega)]
  · rw [if_pos h1, if_neg (fun z => h1 z.1)]
theorem c_isBoth {p : Int32} : am_ev 84 0 [.int p] [] h = some (some (.int (if 0 ≤ p.toInt ∧ p.toInt ≤ 2 then 1 else 0)), h) := by
  rw [am_b84_0, c_isPlayer, x_bI, x_ite]
  by_cases h1 : 0 ≤ p.toInt ∧ p.toInt ≤ 1
  · rw [if_pos h1, if_pos (by omega)]
  · rw [if_neg h1]
    by_cases h2 : p = 2
    · rw [if_pos h2, h2, if_pos (by decide)]
    · rw [if_neg h2, if_neg (fun z => h2 (Int32.toInt_inj.1 (by show p.toInt = 2; omega)))]
theorem c_worth (I : cI h A) (w : q_wf A.1) (x : Int32) : am_ev 72 0 [.ref 1, .int x] [] h = some (some (.int (f_worth A x)), h) := by
  have L := I.1
  have S := I.S
  rw [am_b72_0, c_isBoth, x_bI, x_ite]
  unfold f_worth
  by_cases h1 : 0 ≤ x.toInt ∧ x.toInt ≤ 2
  · obtain ⟨p, rfl, ep, -⟩ := q_nI h1.1
    have ev : q_vI (nI p) = p := by unfold q_vI; omega
    rw [if_pos h1, if_pos h1, ev, if_pos L.k1, L.n, x_oe, if_pos L.k1, x_oe, if_pos S.1, S.2.2.1, x_oe, if_pos S.1, s_pointsBy S S.2.2.2.2.2.1.1 S.2.2.2.2.2.1.2 (show p < 3 by omega), x_bI, if_pos L.k1, L.n, x_oe, if_pos S.1, S.2.2.1, x_oe, I.sW, x_bI]
    have hs : (q_sum (2 * A.1.1) fun k => am_I h (2 + 2) k * q_gb (sG h 2) p k) = q_sum (2 * A.1.1) fun k => A.1.2.2.2.1 k * q_gb (q_g A.1) p k := by
      refine q_sum_congr (fun k hk => ?_)
      have h6 := I.c6
      show am_I h 4 k * _ = _
      rw [I.W (by omega)]
      congr 1
      unfold q_gb
      by_cases e : p = 2
      · rw [if_pos e, if_pos e, I.G (by omega) (by omega), I.G (by omega) (by omega)]
      · rw [if_neg e, if_neg e, I.G (by omega) (by omega)]
    rw [hs, w.sW6, x_thou (q_wsum_pos w), x_bI]
  · rw [if_neg h1, if_neg h1]
end class8
