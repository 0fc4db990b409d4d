/-! ===== the law's isStep ===== -/
section vals
variable {A B : QA} {y : Nat}
theorem f_count0 : f_count A 0 = nI A.1.1 := by unfold f_count; rw [if_pos (by decide)]
theorem f_count2 : f_count A 2 = nI (q_nq A.1.1) := by unfold f_count; rw [if_neg (by decide), if_neg (by decide), if_pos (by decide)]
theorem f_count3 : f_count A 3 = q_sum (2 * A.1.1) A.1.2.2.2.1 := by unfold f_count; rw [if_neg (by decide), if_neg (by decide), if_neg (by decide), if_pos (by decide)]
theorem f_count4 : f_count A 4 = if q_cnt (q_nq A.1.1) (fun q => q_lf A.1.1 (q_g A.1) A.1.2.2.2.1 q < 0) = 0 then 1 else 0 := by unfold f_count; rw [if_neg (by decide), if_neg (by decide), if_neg (by decide), if_neg (by decide), if_pos (by decide)]
theorem f_count5 : f_count A 5 = nI (q_cnt (q_nq A.1.1) (fun q => q_lf A.1.1 (q_g A.1) A.1.2.2.2.1 q < 0)) := by unfold f_count; rw [if_neg (by decide), if_neg (by decide), if_neg (by decide), if_neg (by decide), if_neg (by decide), if_pos (by decide)]
theorem f_count6 : f_count A 6 = nI (q_N A.1) := by unfold f_count; rw [if_neg (by decide), if_neg (by decide), if_neg (by decide), if_neg (by decide), if_neg (by decide), if_neg (by decide), if_pos (by decide)]
theorem f_count7 : f_count A 7 = q_sum (2 * A.1.1) A.1.2.2.2.2 := by unfold f_count; rw [if_neg (by decide), if_neg (by decide), if_neg (by decide), if_neg (by decide), if_neg (by decide), if_neg (by decide), if_neg (by decide), if_pos (by decide)]
theorem f_count8 : f_count A 8 = (q_sum (2 * A.1.1) fun k => A.1.2.2.2.2 k * q_gb (q_g A.1) 0 k) + (100000 : Int32) := by unfold f_count; rw [if_neg (by decide), if_neg (by decide), if_neg (by decide), if_neg (by decide), if_neg (by decide), if_neg (by decide), if_neg (by decide), if_neg (by decide), if_pos (by decide)]
theorem i_vI {k : Nat} (hk : k < 2147483648) : q_vI (nI k) = k := by unfold q_vI; rw [nI_toInt hk]; rfl
theorem i_lt {a b : Nat} (hb : b < 2147483648) (h : a < b) : nI a < nI b := by rw [x_lt (by omega) hb]; exact h
theorem i_nlt {a b : Nat} (ha : a < 2147483648) (hb : b < 2147483648) (h : b ≤ a) : ¬ nI a < nI b := by rw [x_lt ha hb]; omega
theorem i_cellok {c a b : Nat} (h3 : c = 2 ∨ c = 3) (ha : a < 2) (hb : b < c) : q_cellok c (nI a) (nI b) := by
  have e1 : (nI a).toInt = a := nI_toInt (by omega)
  have e2 : (nI b).toInt = b := nI_toInt (by omega)
  unfold q_cellok
  rw [e1, e2]
  omega
theorem wS.points (S : wS y A.1 B.1) (hy : y < 12) (h3 : A.1.1 = 2 ∨ A.1.1 = 3) {p a b : Nat} (hp : p < 2) (ha : a < 2) (hb : b < A.1.1) (v : Int32) : f_points B (nI p) (nI (w_r y a)) (nI (w_c y A.1.1 b)) v = f_points A (nI p) (nI a) (nI b) v ∧ wS y (g_points A (nI p) (nI a) (nI b) v).1 (g_points B (nI p) (nI (w_r y a)) (nI (w_c y A.1.1 b)) v).1 ∧ (g_points A (nI p) (nI a) (nI b) v).1.1 = A.1.1 := by
  have F := (w_fin3 hy h3).1 a ha
  have Fb := F.2 b hb
  have okA := i_cellok h3 ha hb
  have okB : q_cellok B.1.1 (nI (w_r y a)) (nI (w_c y A.1.1 b)) := by rw [S.1]; exact i_cellok h3 F.1 Fb.1
  have ep : (nI p).toInt = p := nI_toInt (by omega)
  have pr : 0 ≤ (nI p).toInt ∧ (nI p).toInt ≤ 1 := by rw [ep]; omega
  have hk := q_cell_lt h3 (show a ≤ 1 by omega) hb
  have G := S.G hy h3
  unfold f_points g_points
  rw [if_pos pr, if_pos okB, if_pos pr, if_pos okA, i_vI (by omega), i_vI (by omega), i_vI (by omega), i_vI (by have := F.1; omega), i_vI (by have := Fb.1; omega), S.1, ← Fb.2]
  refine ⟨?_, ?_⟩
  · rw [S.2.1 p hp _ hk.1]
  · by_cases hv : -9 ≤ v.toInt ∧ v.toInt ≤ 9
    · have okB' : q_cellok A.1.1 (nI (w_r y a)) (nI (w_c y A.1.1 b)) := i_cellok h3 F.1 Fb.1
      rw [if_pos ⟨pr, okA, hv⟩, if_pos ⟨pr, okB', hv⟩]
      refine ⟨⟨rfl, fun p' hp' k hk' => ?_, S.2.2.1, S.2.2.2⟩, rfl⟩
      have e := S.2.1 p' hp' k hk'
      unfold q_g at e ⊢
      dsimp only at e ⊢
      have hk2 : k < 2 * A.1.1 := hk'
      have g1 := G.1 k hk2
      have g2 := G.1 _ hk.1
      have hk6 : k < 6 ∧ w_k y A.1.1 k < 6 ∧ w_k y A.1.1 (A.1.1 * a + b) < 6 := by omega
      unfold am_ud
      by_cases c : p' = p ∧ k = A.1.1 * a + b
      · rw [if_pos (by rw [c.1, c.2]), if_pos (by rw [c.1, c.2])]
      · rw [if_neg (fun z => c ?_), if_neg (fun z => c ?_)]
        · exact e
        · omega
        · have h1 : p' = p ∧ w_k y A.1.1 k = w_k y A.1.1 (A.1.1 * a + b) := by omega
          exact ⟨h1.1, by rw [← g1.2, ← g2.2, h1.2]⟩
    · rw [if_neg (fun z => hv z.2.2), if_neg (fun z => hv z.2.2)]
      exact ⟨S, rfl⟩
theorem wS.weigh (S : wS y A.1 B.1) (hy : y < 12) (h3 : A.1.1 = 2 ∨ A.1.1 = 3) {a b : Nat} (ha : a < 2) (hb : b < A.1.1) (v : Int32) : f_weigh B (nI (w_r y a)) (nI (w_c y A.1.1 b)) v = f_weigh A (nI a) (nI b) v ∧ wS y (g_weigh A (nI a) (nI b) v).1 (g_weigh B (nI (w_r y a)) (nI (w_c y A.1.1 b)) v).1 ∧ (g_weigh A (nI a) (nI b) v).1.1 = A.1.1 := by
  have F := (w_fin3 hy h3).1 a ha
  have Fb := F.2 b hb
  have okA := i_cellok h3 ha hb
  have okB : q_cellok A.1.1 (nI (w_r y a)) (nI (w_c y A.1.1 b)) := i_cellok h3 F.1 Fb.1
  have hk := q_cell_lt h3 (show a ≤ 1 by omega) hb
  have G := S.G hy h3
  have sW := S.sumW hy h3
  have wk := S.2.2.1 _ hk.1
  unfold f_weigh g_weigh
  rw [S.1, if_pos okB, if_pos okA, i_vI (by omega), i_vI (by omega), i_vI (by have := F.1; omega), i_vI (by have := Fb.1; omega), ← Fb.2, wk, sW]
  refine ⟨rfl, ?_⟩
  by_cases hv : (0 ≤ v.toInt ∧ v.toInt ≤ 999) ∧ ¬ q_sum (2 * A.1.1) A.1.2.2.2.1 - A.1.2.2.2.1 (A.1.1 * a + b) + v = 0
  · rw [if_pos ⟨okA, hv⟩, if_pos ⟨okB, hv⟩]
    refine ⟨⟨rfl, S.2.1, fun k hk' => ?_, S.2.2.2⟩, rfl⟩
    have e := S.2.2.1 k hk'
    dsimp only at e ⊢
    have g1 := G.1 k hk'
    have g2 := G.1 _ hk.1
    unfold am_ud
    by_cases c : k = A.1.1 * a + b
    · rw [if_pos (by rw [c]), if_pos c]
    · rw [if_neg (fun z => c (by rw [← g1.2, ← g2.2, z])), if_neg c]
      exact e
  · rw [if_neg (fun z => hv z.2), if_neg (fun z => hv z.2)]
    exact ⟨S, rfl⟩
end vals
theorem l_up2 {H : AH} (x : Int32) : am_ev 96 0 [.int x, .int (2 : Int32)] [] H = some (some (.int (nI (ups x 2))), H) := l_up x (m := 2) (by omega) (by omega)
theorem l_up3 {H : AH} (x : Int32) : am_ev 96 0 [.int x, .int (3 : Int32)] [] H = some (some (.int (nI (ups x 3))), H) := l_up x (m := 3) (by omega) (by omega)
theorem l_up7 {H : AH} (x : Int32) : am_ev 96 0 [.int x, .int (7 : Int32)] [] H = some (some (.int (nI (ups x 7))), H) := l_up x (m := 7) (by omega) (by omega)
theorem l_up12 {H : AH} (x : Int32) : am_ev 96 0 [.int x, .int (12 : Int32)] [] H = some (some (.int (nI (ups x 12))), H) := l_up x (m := 12) (by omega) (by omega)
theorem l_up19 {H : AH} (x : Int32) : am_ev 96 0 [.int x, .int (19 : Int32)] [] H = some (some (.int (nI (ups x 19))), H) := l_up x (m := 19) (by omega) (by omega)
theorem l_up30 {H : AH} (x : Int32) : am_ev 96 0 [.int x, .int (30 : Int32)] [] H = some (some (.int (nI (ups x 30))), H) := l_up x (m := 30) (by omega) (by omega)
theorem l_up40 {H : AH} (x : Int32) : am_ev 96 0 [.int x, .int (40 : Int32)] [] H = some (some (.int (nI (ups x 40))), H) := l_up x (m := 40) (by omega) (by omega)
theorem l_up100 {H : AH} (x : Int32) : am_ev 96 0 [.int x, .int (100 : Int32)] [] H = some (some (.int (nI (ups x 100))), H) := l_up x (m := 100) (by omega) (by omega)
theorem l_upT {H : AH} (x : Int32) : am_ev 96 0 [.int x, .int (100000 : Int32)] [] H = some (some (.int (nI (ups x 100000))), H) := l_up x (m := 100000) (by omega) (by omega)
section step
variable {L : Nat} {xs : Nat → Int32} {n y : Nat} {H : AH} {A B : QA}
theorem l_step (J : lw L xs n H A B) (S : wS y A.1 B.1) (hy : y < 12) (x : Int32) : ∃ H1 A' B', am_ev 99 0 [.ref 1, .ref 20, .int (nI y), .int x, am_ph, am_ph, am_ph, am_ph, am_ph, am_ph] [] H = some (some (.int 1), H1) ∧ lw L xs (n + 1 + 1) H1 A' B' ∧ wS y A'.1 B'.1 ∧ A'.1.1 = A.1.1 := by
  have h3 := J.wo.1.c3
  have hc0 : 0 < A.1.1 := by omega
  obtain ⟨H1, e1, J1⟩ := lo_count J 0
  obtain ⟨z, hz⟩ : ∃ z, z = x >>> ((4 : Int32) &&& 31) := ⟨_, rfl⟩
  have ha := ups_lt z (m := 2) (by omega)
  have hb := ups_lt (z >>> ((2 : Int32) &&& 31)) hc0
  have hu := ups_lt x (m := 7) (by omega)
  by_cases h4 : ups x 7 < 4
  · have hp := ups_lt (z >>> ((5 : Int32) &&& 31)) (m := 2) (by omega)
    have P := S.points hy h3 hp ha hb (nI (ups (z >>> ((7 : Int32) &&& 31)) 19) - (9 : Int32))
    obtain ⟨H2, e2, J2⟩ := lo_points J1 (nI (ups (z >>> ((5 : Int32) &&& 31)) 2)) (nI (ups z 2)) (nI (ups (z >>> ((2 : Int32) &&& 31)) A.1.1)) (nI (ups (z >>> ((7 : Int32) &&& 31)) 19) - (9 : Int32))
    obtain ⟨H3, e3, J3⟩ := lp_points J2 (nI (ups (z >>> ((5 : Int32) &&& 31)) 2)) (nI (w_r y (ups z 2))) (nI (w_c y A.1.1 (ups (z >>> ((2 : Int32) &&& 31)) A.1.1))) (nI (ups (z >>> ((7 : Int32) &&& 31)) 19) - (9 : Int32))
    refine ⟨H3, _, _, ?_, J3, P.2.1, P.2.2⟩
    rw [am_b99_0, if_pos J.k1, e1, x_bI, f_count0, ← hz, l_up2, x_bI, l_up _ hc0 (by omega), x_bI, l_up7, x_bI]
    rcases (show ups x 7 = 0 ∨ ups x 7 = 1 ∨ ups x 7 = 2 ∨ ups x 7 = 3 by omega) with hu | hu | hu | hu
    · rw [hu, if_pos rfl, l_up2, x_bI, l_up19, x_bI, if_pos J1.k1, e2, x_bI, l_row hy ha, x_bI, l_col hy h3 hb, x_bI, if_pos J2.k20, e3, x_bI, if_pos P.1.symm]
    · rw [hu, if_neg (by decide), if_pos rfl, l_up2, x_bI, l_up19, x_bI, if_pos J1.k1, e2, x_bI, l_row hy ha, x_bI, l_col hy h3 hb, x_bI, if_pos J2.k20, e3, x_bI, if_pos P.1.symm]
    · rw [hu, if_neg (by decide), if_neg (by decide), if_pos rfl, l_up2, x_bI, l_up19, x_bI, if_pos J1.k1, e2, x_bI, l_row hy ha, x_bI, l_col hy h3 hb, x_bI, if_pos J2.k20, e3, x_bI, if_pos P.1.symm]
    · rw [hu, if_neg (by decide), if_neg (by decide), if_neg (by decide), if_pos rfl, l_up2, x_bI, l_up19, x_bI, if_pos J1.k1, e2, x_bI, l_row hy ha, x_bI, l_col hy h3 hb, x_bI, if_pos J2.k20, e3, x_bI, if_pos P.1.symm]
  · have P := S.weigh hy h3 ha hb (nI (ups (z >>> ((6 : Int32) &&& 31)) 30))
    obtain ⟨H2, e2, J2⟩ := lo_weigh J1 (nI (ups z 2)) (nI (ups (z >>> ((2 : Int32) &&& 31)) A.1.1)) (nI (ups (z >>> ((6 : Int32) &&& 31)) 30))
    obtain ⟨H3, e3, J3⟩ := lp_weigh J2 (nI (w_r y (ups z 2))) (nI (w_c y A.1.1 (ups (z >>> ((2 : Int32) &&& 31)) A.1.1))) (nI (ups (z >>> ((6 : Int32) &&& 31)) 30))
    refine ⟨H3, _, _, ?_, J3, P.2.1, P.2.2⟩
    have ne : ∀ m, m < 4 → ¬ nI (ups x 7) = nI m := fun m hm => by rw [nI_eq (by omega) (by omega)]; omega
    rw [am_b99_0, if_pos J.k1, e1, x_bI, f_count0, ← hz, l_up2, x_bI, l_up _ hc0 (by omega), x_bI, l_up7, x_bI, if_neg (ne 0 (by omega)), if_neg (ne 1 (by omega)), if_neg (ne 2 (by omega)), if_neg (ne 3 (by omega)), l_up30, x_bI, if_pos J1.k1, e2, x_bI, l_row hy ha, x_bI, l_col hy h3 hb, x_bI, l_up30, x_bI, if_pos J2.k20, e3, x_bI, if_pos P.1.symm]
end step
