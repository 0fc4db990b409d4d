/-! ===== the law's areAlike ===== -/
section alikev
variable {A B : QA} {y : Nat}
theorem wS.worth (S : wS y A.1 B.1) (hy : y < 12) (h3 : A.1.1 = 2 ∨ A.1.1 = 3) {p : Nat} (hp : p < 3) : f_worth A (nI p) = f_worth B (nI p) := by
  have ep : (nI p).toInt = p := nI_toInt (by omega)
  unfold f_worth
  rw [S.1, i_vI (by omega), S.pts hy h3 hp, S.sumW hy h3]
theorem wS.cell (S : wS y A.1 B.1) (hy : y < 12) (h3 : A.1.1 = 2 ∨ A.1.1 = 3) (L : z_list A.1.1 (q_g A.1) (q_N A.1, q_E A.1)) (L' : z_list B.1.1 (q_g B.1) (q_N B.1, q_E B.1)) {a b : Nat} (ha : a < 2) (hb : b < A.1.1) (v : Int32) : f_cell A (nI a) (nI b) v = f_cell B (nI (w_r y a)) (nI (w_c y A.1.1 b)) v := by
  have F := (w_fin3 hy h3).1 a ha
  have Fb := F.2 b hb
  have okA := i_cellok h3 ha hb
  have okB : q_cellok A.1.1 (nI (w_r y a)) (nI (w_c y A.1.1 b)) := i_cellok h3 F.1 Fb.1
  have hk := q_cell_lt h3 (show a ≤ 1 by omega) hb
  have G := S.G hy h3
  have g2 := G.1 _ hk.1
  unfold f_cell
  rw [S.1, if_pos okB, if_pos okA, i_vI (by omega), i_vI (by omega), i_vI (by have := F.1; omega), i_vI (by have := Fb.1; omega), ← Fb.2, S.2.1 0 (by omega) _ hk.1, S.2.1 1 (by omega) _ hk.1, S.2.2.1 _ hk.1, S.2.2.2 _ hk.1, S.sure hy h3 hk.1, f_any_bit hk.2, f_any_bit (by omega), S.any hy h3 L L' hk.1]
theorem f_extreme6 (h3 : A.1.1 = 2 ∨ A.1.1 = 3) {i : Nat} (hi : i < q_N A.1) (hN : q_N A.1 ≤ 128) : f_extreme A (nI i) 6 = (f_sumE A.1 i).toInt32 := by
  have ei : (nI i).toInt = i := nI_toInt (by omega)
  have e6 : (6 : Int32).toInt = 6 := rfl
  unfold f_extreme
  rw [if_pos (by rw [ei]; omega), i_vI (by omega), if_neg (by rw [e6]; omega), if_pos (by decide)]
theorem f_extreme_k (h3 : A.1.1 = 2 ∨ A.1.1 = 3) {i k : Nat} (hi : i < q_N A.1) (hN : q_N A.1 ≤ 128) (hk : k < 2 * A.1.1) : f_extreme A (nI i) (nI k) = (q_E A.1 i k).toInt32 := by
  have ei : (nI i).toInt = i := nI_toInt (by omega)
  have ek : (nI k).toInt = k := nI_toInt (by omega)
  unfold f_extreme
  rw [if_pos (by rw [ei]; omega), i_vI (by omega), if_pos (by rw [ek]; omega), i_vI (by omega)]
theorem wS.never0 (S : wS y A.1 B.1) (hy : y < 12) (h3 : A.1.1 = 2 ∨ A.1.1 = 3) (L : z_list A.1.1 (q_g A.1) (q_N A.1, q_E A.1)) (L' : z_list B.1.1 (q_g B.1) (q_N B.1, q_E B.1)) {v : Nat} (hv : v < 2) : ((f_never A 0 >>> (nI v &&& 31)) &&& (1 : Int32)) = ((f_never B 0 >>> (nI (w_r y v) &&& 31)) &&& (1 : Int32)) := by
  have F := (w_fin3 hy h3).1 v hv
  have F2 := (w_fin3 hy h3).2
  have e := S.never hy h3 L L' (p := 0) (v := v) (v' := w_r y v) (by omega) (fun k hk => by
    rw [(F2 k hk).1]
    have hm : q_mv A.1.1 k 0 < 2 := by unfold q_mv; rw [if_pos rfl]; split <;> omega
    have inj : ∀ y, y < 12 → ∀ a, a < 2 → ∀ b, b < 2 → (w_r y a = w_r y b ↔ a = b) := by decide +kernel
    exact inj y hy _ hm v hv)
  have a1 := f_never_bit (A := A) h3 (p := 0) (v := v) (by omega) (by rw [if_pos rfl]; exact hv)
  have a2 := f_never_bit (A := B) (by rw [S.1]; exact h3) (p := 0) (v := w_r y v) (by omega) (by rw [if_pos rfl]; exact F.1)
  rw [nI_0] at a1 a2
  rw [a1, a2, e]
theorem wS.never1 (S : wS y A.1 B.1) (hy : y < 12) (h3 : A.1.1 = 2 ∨ A.1.1 = 3) (L : z_list A.1.1 (q_g A.1) (q_N A.1, q_E A.1)) (L' : z_list B.1.1 (q_g B.1) (q_N B.1, q_E B.1)) {v : Nat} (hv : v < A.1.1) : ((f_never A 1 >>> (nI v &&& 31)) &&& (1 : Int32)) = ((f_never B 1 >>> (nI (w_c y A.1.1 v) &&& 31)) &&& (1 : Int32)) := by
  have F := ((w_fin3 hy h3).1 0 (by omega)).2 v hv
  have F2 := (w_fin3 hy h3).2
  have e := S.never hy h3 L L' (p := 1) (v := v) (v' := w_c y A.1.1 v) (by omega) (fun k hk => by
    rw [(F2 k hk).2]
    have hm : q_mv A.1.1 k 1 < A.1.1 := by unfold q_mv; rw [if_neg (by omega)]; split <;> omega
    have inj2 : ∀ y, y < 12 → ∀ a, a < 2 → ∀ b, b < 2 → (w_c y 2 a = w_c y 2 b ↔ a = b) := by decide +kernel
    have inj3 : ∀ y, y < 12 → ∀ a, a < 3 → ∀ b, b < 3 → (w_c y 3 a = w_c y 3 b ↔ a = b) := by decide +kernel
    generalize q_mv A.1.1 k 1 = m at hm
    rcases h3 with c | c <;> rw [c] at hm hv ⊢
    · exact inj2 y hy m hm v hv
    · exact inj3 y hy m hm v hv)
  have a1 := f_never_bit (A := A) h3 (p := 1) (v := v) (by omega) (by rw [if_neg (by omega)]; exact hv)
  have a2 := f_never_bit (A := B) (by rw [S.1]; exact h3) (p := 1) (v := w_c y A.1.1 v) (by omega) (by rw [if_neg (by omega), S.1]; exact F.1)
  have e1 : nI 1 = (1 : Int32) := rfl
  rw [e1] at a1 a2
  rw [a1, a2, e]
end alikev
section alike
variable {L : Nat} {xs : Nat → Int32} {n y f c N : Nat} {A B : QA}
theorem la75 (S : wS y A.1 B.1) (hy : y < 12) (h3 : A.1.1 = 2 ∨ A.1.1 = 3) : ∀ (d j : Nat) (H : AH), j + d = 3 → lw L xs n H A B → ∃ H1, am_ev 100 75 [.ref 1, .ref 20, .int (nI y), .int (nI f), .int (nI c), .int (nI N), .int 1, .int (nI j), am_ph, am_ph, am_ph, am_ph] [] H = am_ev 100 134 [.ref 1, .ref 20, .int (nI y), .int (nI f), .int (nI c), .int (nI N), .int 1, .int 0, am_ph, am_ph, am_ph, am_ph] [] H1 ∧ lw L xs n H1 A B := by
  intro d
  induction d with
  | zero =>
    intro j H hj J
    obtain rfl : j = 3 := by omega
    refine ⟨H, ?_, J⟩
    rw [am_b100_75, if_neg (show ¬ nI 3 < (3 : Int32) by decide)]
  | succ d ih =>
    intro j H hj J
    obtain ⟨H1, e1, J1⟩ := lo_worth J (nI j)
    obtain ⟨H2, e2, J2⟩ := lp_worth J1 (nI j)
    obtain ⟨H3, e3, J3⟩ := lo_best J2 (nI j) 1
    obtain ⟨H4, e4, J4⟩ := lp_best J3 (nI j) 1
    obtain ⟨H5, e5, J5⟩ := ih (j + 1) H4 (by omega) J4
    refine ⟨H5, ?_, J5⟩
    have v1 := S.worth hy h3 (p := j) (by omega)
    have v2 : f_best A (nI j) 1 = f_best B (nI j) 1 := by rw [f_best_bw (by omega), f_best_bw (by omega), S.best hy J.wo.1 J.wp.1 J.zo J.zp (by omega)]
    rw [am_b100_75, if_pos (show nI j < (3 : Int32) from i_lt (b := 3) (by omega) (by omega)), if_neg (by decide), if_pos J.k1, e1, x_bI, if_pos J1.k20, e2, x_bI, if_pos v1, if_pos J2.k1, e3, x_bI, if_pos J3.k20, e4, x_bI, if_pos v2, nI_1]
    exact e5
theorem la153 (S : wS y A.1 B.1) (hy : y < 12) (h3 : A.1.1 = 2 ∨ A.1.1 = 3) (hc : c = A.1.1) {a b : Nat} (ha : a < 2) (hb : b < c) : ∀ (d j : Nat) (H : AH), j + d = 6 → lw L xs n H A B → ∃ H1, am_ev 100 153 [.ref 1, .ref 20, .int (nI y), .int (nI f), .int (nI c), .int (nI N), .int 1, .int (nI a), .int (nI b), .int (nI j), am_ph, am_ph] [] H = am_ev 100 143 [.ref 1, .ref 20, .int (nI y), .int (nI f), .int (nI c), .int (nI N), .int 1, .int (nI a), .int (nI (b + 1)), am_ph, am_ph, am_ph] [] H1 ∧ lw L xs n H1 A B := by
  subst hc
  intro d
  induction d with
  | zero =>
    intro j H hj J
    obtain rfl : j = 6 := by omega
    refine ⟨H, ?_, J⟩
    rw [am_b100_153, if_neg (show ¬ nI 6 < (6 : Int32) by decide), nI_1]
  | succ d ih =>
    intro j H hj J
    obtain ⟨H1, e1, J1⟩ := lo_cell J (nI a) (nI b) (nI j)
    obtain ⟨H2, e2, J2⟩ := lp_cell J1 (nI (w_r y a)) (nI (w_c y A.1.1 b)) (nI j)
    obtain ⟨H5, e5, J5⟩ := ih (j + 1) H2 (by omega) J2
    refine ⟨H5, ?_, J5⟩
    rw [am_b100_153, if_pos (show nI j < (6 : Int32) from i_lt (b := 6) (by omega) (by omega)), if_neg (by decide), if_pos J.k1, e1, x_bI, l_row hy ha, x_bI, l_col hy h3 hb, x_bI, if_pos J1.k20, e2, x_bI, if_pos (S.cell hy h3 J.zo J.zp ha hb (nI j)), nI_1]
    exact e5
theorem la143 (S : wS y A.1 B.1) (hy : y < 12) (h3 : A.1.1 = 2 ∨ A.1.1 = 3) (hc : c = A.1.1) {a : Nat} (ha : a < 2) : ∀ (d b : Nat) (H : AH), b + d = c → lw L xs n H A B → ∃ H1, am_ev 100 143 [.ref 1, .ref 20, .int (nI y), .int (nI f), .int (nI c), .int (nI N), .int 1, .int (nI a), .int (nI b), am_ph, am_ph, am_ph] [] H = am_ev 100 134 [.ref 1, .ref 20, .int (nI y), .int (nI f), .int (nI c), .int (nI N), .int 1, .int (nI (a + 1)), am_ph, am_ph, am_ph, am_ph] [] H1 ∧ lw L xs n H1 A B := by
  intro d
  induction d with
  | zero =>
    intro b H hb J
    refine ⟨H, ?_, J⟩
    rw [am_b100_143, if_neg (i_nlt (by omega) (by omega) (by omega)), nI_1]
  | succ d ih =>
    intro b H hb J
    obtain ⟨H1, e1, J1⟩ := la153 (f := f) (N := N) S hy h3 hc ha (b := b) (by omega) 6 0 H (by omega) J
    rw [nI_0] at e1
    obtain ⟨H2, e2, J2⟩ := ih (b + 1) H1 (by omega) J1
    refine ⟨H2, ?_, J2⟩
    rw [am_b100_143, if_pos (i_lt (by omega) (by omega)), e1]
    exact e2
theorem la134 (S : wS y A.1 B.1) (hy : y < 12) (h3 : A.1.1 = 2 ∨ A.1.1 = 3) (hc : c = A.1.1) : ∀ (d a : Nat) (H : AH), a + d = 2 → lw L xs n H A B → ∃ H1, am_ev 100 134 [.ref 1, .ref 20, .int (nI y), .int (nI f), .int (nI c), .int (nI N), .int 1, .int (nI a), am_ph, am_ph, am_ph, am_ph] [] H = am_ev 100 226 [.ref 1, .ref 20, .int (nI y), .int (nI f), .int (nI c), .int (nI N), .int 1, .int 0, am_ph, am_ph, am_ph, am_ph] [] H1 ∧ lw L xs n H1 A B := by
  intro d
  induction d with
  | zero =>
    intro a H ha J
    obtain rfl : a = 2 := by omega
    refine ⟨H, ?_, J⟩
    rw [am_b100_134, if_neg (show ¬ nI 2 < (2 : Int32) by decide)]
  | succ d ih =>
    intro a H ha J
    obtain ⟨H1, e1, J1⟩ := la143 (f := f) (N := N) S hy h3 hc (a := a) (by omega) c 0 H (by omega) J
    rw [nI_0] at e1
    obtain ⟨H2, e2, J2⟩ := ih (a + 1) H1 (by omega) J1
    refine ⟨H2, ?_, J2⟩
    rw [am_b100_134, if_pos (show nI a < (2 : Int32) from i_lt (b := 2) (by omega) (by omega)), e1]
    exact e2
theorem la226 (S : wS y A.1 B.1) (hy : y < 12) (h3 : A.1.1 = 2 ∨ A.1.1 = 3) : ∀ (d j : Nat) (H : AH), j + d = 2 → lw L xs n H A B → ∃ H1, am_ev 100 226 [.ref 1, .ref 20, .int (nI y), .int (nI f), .int (nI c), .int (nI N), .int 1, .int (nI j), am_ph, am_ph, am_ph, am_ph] [] H = am_ev 100 280 [.ref 1, .ref 20, .int (nI y), .int (nI f), .int (nI c), .int (nI N), .int 1, .int 0, am_ph, am_ph, am_ph, am_ph] [] H1 ∧ lw L xs n H1 A B := by
  intro d
  induction d with
  | zero =>
    intro j H hj J
    obtain rfl : j = 2 := by omega
    refine ⟨H, ?_, J⟩
    rw [am_b100_226, if_neg (show ¬ nI 2 < (2 : Int32) by decide)]
  | succ d ih =>
    intro j H hj J
    obtain ⟨H1, e1, J1⟩ := lo_never J 0
    obtain ⟨H2, e2, J2⟩ := lp_never J1 0
    obtain ⟨H5, e5, J5⟩ := ih (j + 1) H2 (by omega) J2
    refine ⟨H5, ?_, J5⟩
    rw [am_b100_226, if_pos (show nI j < (2 : Int32) from i_lt (b := 2) (by omega) (by omega)), if_neg (by decide), if_pos J.k1, e1, x_bI, if_pos J1.k20, e2, x_bI, l_row hy (by omega), x_bI, if_pos (S.never0 hy h3 J.zo J.zp (by omega)), nI_1]
    exact e5
theorem la280 (S : wS y A.1 B.1) (hy : y < 12) (h3 : A.1.1 = 2 ∨ A.1.1 = 3) (hc : c = A.1.1) : ∀ (d j : Nat) (H : AH), j + d = c → lw L xs n H A B → ∃ H1, am_ev 100 280 [.ref 1, .ref 20, .int (nI y), .int (nI f), .int (nI c), .int (nI N), .int 1, .int (nI j), am_ph, am_ph, am_ph, am_ph] [] H = am_ev 100 337 [.ref 1, .ref 20, .int (nI y), .int (nI f), .int (nI c), .int (nI N), .int 1, .int 0, am_ph, am_ph, am_ph, am_ph] [] H1 ∧ lw L xs n H1 A B := by
  subst hc
  intro d
  induction d with
  | zero =>
    intro j H hj J
    refine ⟨H, ?_, J⟩
    rw [am_b100_280, if_neg (i_nlt (by omega) (by omega) (by omega))]
  | succ d ih =>
    intro j H hj J
    obtain ⟨H1, e1, J1⟩ := lo_never J 1
    obtain ⟨H2, e2, J2⟩ := lp_never J1 1
    obtain ⟨H5, e5, J5⟩ := ih (j + 1) H2 (by omega) J2
    refine ⟨H5, ?_, J5⟩
    rw [am_b100_280, if_pos (i_lt (by omega) (by omega)), if_neg (by decide), if_pos J.k1, e1, x_bI, if_pos J1.k20, e2, x_bI, l_col hy h3 (by omega), x_bI, if_pos (S.never1 hy h3 J.zo J.zp (by omega)), nI_1]
    exact e5
/-- one dice of the one against dice j of the other, from cell k on -/
theorem la404 (hy : y < 12) (h3 : A.1.1 = 2 ∨ A.1.1 = 3) (hB : B.1.1 = A.1.1) (hc : c = A.1.1) (hN : N = q_N A.1) (hN' : N = q_N B.1) {m i j : Nat} (hi : i < N) (hj : j < N) : ∀ (d k : Nat) (H : AH), k + d = 2 * c → lw L xs n H A B → ∃ H1 r, (r = 0 ∨ r = 1) ∧ am_ev 100 404 [.ref 1, .ref 20, .int (nI y), .int (nI f), .int (nI c), .int (nI N), am_ph, .int (nI m), .int (nI i), .int 1, .int (nI j), .int (nI k)] [] H = am_ev 100 363 [.ref 1, .ref 20, .int (nI y), .int (nI f), .int (nI c), .int (nI N), am_ph, .int (nI m), .int (nI i), .int r, .int (nI (j + 1)), am_ph] [] H1 ∧ lw L xs n H1 A B ∧ ((∀ k, k < 2 * c → q_E B.1 j (w_k y c k) = q_E A.1 i k) → r = 1) := by
  subst hc
  intro d
  induction d with
  | zero =>
    intro k H hk J
    refine ⟨H, 1, Or.inr rfl, ?_, J, fun _ => rfl⟩
    rw [am_b100_404, show (2 : Int32) = nI 2 from rfl, pk_mul, if_neg (i_nlt (by omega) (by omega) (by omega)), nI_1]
  | succ d ih =>
    intro k H hk J
    have h128 : q_N A.1 ≤ 128 := J.zo.1.2
    obtain ⟨H1, e1, J1⟩ := lo_extreme J (nI i) (nI k)
    obtain ⟨H2, e2, J2⟩ := lp_extreme J1 (nI j) (nI (w_k y A.1.1 k))
    have hdiv : k / A.1.1 < 2 := by rw [Nat.div_lt_iff_lt_mul (by omega)]; omega
    have hmod : k % A.1.1 < A.1.1 := Nat.mod_lt _ (by omega)
    have hk2 := ((w_fin hy h3).1 k (by omega)).1
    have v1 : f_extreme A (nI i) (nI k) = (q_E A.1 i k).toInt32 := f_extreme_k h3 (by omega) h128 (by omega)
    have v2 : f_extreme B (nI j) (nI (w_k y A.1.1 k)) = (q_E B.1 j (w_k y A.1.1 k)).toInt32 := f_extreme_k (by rw [hB]; exact h3) (by omega) (by omega) (by rw [hB]; exact hk2)
    have hrem : nI k - nI (k / A.1.1) * nI A.1.1 = nI (k % A.1.1) := by
      have := pk_rem (a := k) (d := A.1.1) (by omega) (by omega) (by omega)
      rw [pk_div (by omega) (by omega) (by omega)] at this
      exact this
    have head : am_ev 100 404 [.ref 1, .ref 20, .int (nI y), .int (nI f), .int (nI A.1.1), .int (nI N), am_ph, .int (nI m), .int (nI i), .int 1, .int (nI j), .int (nI k)] [] H = (if f_extreme A (nI i) (nI k) = f_extreme B (nI j) (nI (w_k y A.1.1 k)) then am_ev 100 404 [.ref 1, .ref 20, .int (nI y), .int (nI f), .int (nI A.1.1), .int (nI N), am_ph, .int (nI m), .int (nI i), .int 1, .int (nI j), .int (nI (k + 1))] [] H2 else am_ev 100 404 [.ref 1, .ref 20, .int (nI y), .int (nI f), .int (nI A.1.1), .int (nI N), am_ph, .int (nI m), .int (nI i), .int 0, .int (nI j), .int (nI (k + 1))] [] H2) := by
      rw [am_b100_404, show (2 : Int32) = nI 2 from rfl, pk_mul, if_pos (i_lt (by omega) (by omega)), if_neg (by decide), if_pos J.k1, e1, x_bI, if_neg (by rw [← nI_0, nI_eq (by omega) (by omega)]; omega), pk_div (by omega) (by omega) (by omega), l_row hy hdiv, x_bI, if_neg (by rw [← nI_0, nI_eq (by omega) (by omega)]; omega), hrem, l_col hy h3 hmod, x_bI, if_pos J1.k20, pk_mul, nI_add, show A.1.1 * w_r y (k / A.1.1) + w_c y A.1.1 (k % A.1.1) = w_k y A.1.1 k from rfl, e2, x_bI, nI_1]
    rw [head]
    by_cases e : f_extreme A (nI i) (nI k) = f_extreme B (nI j) (nI (w_k y A.1.1 k))
    · rw [if_pos e]
      exact ih (k + 1) H2 (by omega) J2
    · rw [if_neg e]
      refine ⟨H2, 0, Or.inl rfl, ?_, J2, fun z => absurd (by rw [v1, v2, z k (by omega)]) e⟩
      rw [am_b100_404, show (2 : Int32) = nI 2 from rfl, pk_mul]
      by_cases hl : k + 1 < 2 * A.1.1
      · rw [if_pos (i_lt (by omega) hl), if_pos rfl, nI_1]
      · rw [if_neg (i_nlt (by omega) (by omega) (by omega)), nI_1]
/-- found: on to the next part -/
theorem la363_1 {m i j : Nat} {H : AH} (hj : j ≤ N) (hN : N ≤ 128) : am_ev 100 363 [.ref 1, .ref 20, .int (nI y), .int (nI f), .int (nI c), .int (nI N), am_ph, .int (nI m), .int (nI i), .int 1, .int (nI j), am_ph] [] H = am_ev 100 337 [.ref 1, .ref 20, .int (nI y), .int (nI f), .int (nI c), .int (nI N), .int 1, .int (nI (m + 1)), am_ph, am_ph, am_ph, am_ph] [] H := by
  rw [am_b100_363, nI_1]
  by_cases h : j < N
  · rw [if_pos (i_lt (by omega) h), if_neg (by decide)]
  · rw [if_neg (i_nlt (by omega) (by omega) (by omega))]
theorem la363 (S : wS y A.1 B.1) (hy : y < 12) (h3 : A.1.1 = 2 ∨ A.1.1 = 3) (hc : c = A.1.1) (hN : N = q_N A.1) (hN' : N = q_N B.1) {m i j0 : Nat} (hi : i < N) (hj0 : j0 < N) (e0 : (∀ k, k < 2 * c → q_E B.1 j0 (w_k y c k) = q_E A.1 i k) ∧ f_sumE B.1 j0 = f_sumE A.1 i) : ∀ (d j : Nat) (H : AH), j + d = N → j ≤ j0 → lw L xs n H A B → ∃ H1, am_ev 100 363 [.ref 1, .ref 20, .int (nI y), .int (nI f), .int (nI c), .int (nI N), am_ph, .int (nI m), .int (nI i), .int 0, .int (nI j), am_ph] [] H = am_ev 100 337 [.ref 1, .ref 20, .int (nI y), .int (nI f), .int (nI c), .int (nI N), .int 1, .int (nI (m + 1)), am_ph, am_ph, am_ph, am_ph] [] H1 ∧ lw L xs n H1 A B := by
  intro d
  induction d with
  | zero => intro j H hj h _; omega
  | succ d ih =>
    intro j H hj h J
    have h128 : q_N A.1 ≤ 128 := J.zo.1.2
    obtain ⟨H1, e1, J1⟩ := lo_extreme J (nI i) 6
    obtain ⟨H2, e2, J2⟩ := lp_extreme J1 (nI j) 6
    have v1 : f_extreme A (nI i) 6 = (f_sumE A.1 i).toInt32 := f_extreme6 h3 (by omega) h128
    have v2 : f_extreme B (nI j) 6 = (f_sumE B.1 j).toInt32 := f_extreme6 (by rw [S.1]; exact h3) (by omega) (by omega)
    rw [am_b100_363, if_pos (i_lt (by omega) (by omega)), if_pos rfl, if_pos J.k1, e1, x_bI, if_pos J1.k20, e2, x_bI]
    by_cases e : f_extreme A (nI i) 6 = f_extreme B (nI j) 6
    · rw [if_pos e]
      obtain ⟨H3, r, hr, e3, J3, f3⟩ := la404 (f := f) hy h3 S.1 hc hN hN' (m := m) hi (j := j) (by omega) (2 * c) 0 H2 (by omega) J2
      rw [nI_0] at e3
      rw [e3]
      rcases hr with rfl | rfl
      · have hne : j ≠ j0 := fun z => by
          rw [z] at f3
          exact absurd (f3 e0.1) (by decide)
        exact ih (j + 1) H3 (by omega) (by omega) J3
      · exact ⟨H3, la363_1 (by omega) (by omega), J3⟩
    · rw [if_neg e]
      have hne : j ≠ j0 := fun z => e (by rw [v1, v2, z, e0.2])
      have e4 : am_ev 100 404 [.ref 1, .ref 20, .int (nI y), .int (nI f), .int (nI c), .int (nI N), am_ph, .int (nI m), .int (nI i), .int 0, .int (nI j), .int 0] [] H2 = am_ev 100 363 [.ref 1, .ref 20, .int (nI y), .int (nI f), .int (nI c), .int (nI N), am_ph, .int (nI m), .int (nI i), .int 0, .int (nI (j + 1)), am_ph] [] H2 := by
        rw [am_b100_404, show (2 : Int32) = nI 2 from rfl, pk_mul, if_pos (by rw [← nI_0]; exact i_lt (by omega) (by omega)), if_pos rfl, nI_1]
      rw [e4]
      exact ih (j + 1) H2 (by omega) (by omega) J2
theorem la337 (S : wS y A.1 B.1) (hy : y < 12) (h3 : A.1.1 = 2 ∨ A.1.1 = 3) (hc : c = A.1.1) (hN : N = q_N A.1) (hN' : N = q_N B.1) (hf : f < 100) : ∀ (d m : Nat) (H : AH), m + d = 2 → lw L xs n H A B → ∃ H1, am_ev 100 337 [.ref 1, .ref 20, .int (nI y), .int (nI f), .int (nI c), .int (nI N), .int 1, .int (nI m), am_ph, am_ph, am_ph, am_ph] [] H = some (some (.int 1), H1) ∧ lw L xs n H1 A B := by
  intro d
  induction d with
  | zero =>
    intro m H hm J
    obtain rfl : m = 2 := by omega
    refine ⟨H, ?_, J⟩
    rw [am_b100_337, if_neg (show ¬ nI 2 < (2 : Int32) by decide), if_pos (Or.inr rfl)]
  | succ d ih =>
    intro m H hm J
    have h128 := J.zo.1
    have h128 : 0 < q_N A.1 ∧ q_N A.1 ≤ 128 := h128
    have hi : (f + m) % N < N := Nat.mod_lt _ (by omega)
    obtain ⟨j0, hj0, k1, k2, -⟩ := S.to hy h3 J.zo J.zp (i := (f + m) % N) (by omega)
    obtain ⟨H1, e1, J1⟩ := la363 (f := f) (m := m) S hy h3 hc hN hN' hi (j0 := j0) (by omega) ⟨by rw [hc]; exact k1, k2⟩ N 0 H (by omega) (by omega) J
    rw [nI_0] at e1
    obtain ⟨H2, e2, J2⟩ := ih (m + 1) H1 (by omega) J1
    refine ⟨H2, ?_, J2⟩
    rw [am_b100_337, if_pos (show nI m < (2 : Int32) from i_lt (b := 2) (by omega) (by omega)), if_neg (by decide), if_neg (by rw [← nI_0, nI_eq (by omega) (by omega)]; omega), nI_add, pk_rem (by omega) (by omega) (by omega), e1]
    exact e2
theorem l_alike {H : AH} (J : lw L xs n H A B) (S : wS y A.1 B.1) (hy : y < 12) (hf : f < 100) : ∃ H1, am_ev 100 0 [.ref 1, .ref 20, .int (nI y), .int (nI f), am_ph, am_ph, am_ph, am_ph, am_ph, am_ph, am_ph, am_ph] [] H = some (some (.int 1), H1) ∧ lw L xs n H1 A B := by
  have h3 := J.wo.1.c3
  have hN := S.many hy h3 J.zo J.zp
  obtain ⟨H1, e1, J1⟩ := lo_count J 0
  obtain ⟨H2, e2, J2⟩ := lo_count J1 6
  obtain ⟨H3, e3, J3⟩ := lp_count J2 6
  obtain ⟨H4, e4, J4⟩ := lo_count J3 3
  obtain ⟨H5, e5, J5⟩ := lp_count J4 3
  obtain ⟨H6, e6, J6⟩ := lo_count J5 4
  obtain ⟨H7, e7, J7⟩ := lp_count J6 4
  obtain ⟨H8, e8, J8⟩ := lo_count J7 5
  obtain ⟨H9, e9, J9⟩ := lp_count J8 5
  obtain ⟨K1, k1, I1⟩ := la75 (f := f) (c := A.1.1) (N := q_N A.1) S hy h3 3 0 H9 (by omega) J9
  obtain ⟨K2, k2, I2⟩ := la134 (f := f) (c := A.1.1) (N := q_N A.1) S hy h3 rfl 2 0 K1 (by omega) I1
  obtain ⟨K3, k3, I3⟩ := la226 (f := f) (c := A.1.1) (N := q_N A.1) S hy h3 2 0 K2 (by omega) I2
  obtain ⟨K4, k4, I4⟩ := la280 (f := f) (c := A.1.1) (N := q_N A.1) S hy h3 rfl A.1.1 0 K3 (by omega) I3
  obtain ⟨K5, k5, I5⟩ := la337 S hy h3 rfl rfl hN.symm hf 2 0 K4 (by omega) I4
  rw [nI_0] at k1 k2 k3 k4 k5
  refine ⟨K5, ?_, I5⟩
  have v6 : f_count A 6 = f_count B 6 := by rw [f_count6, f_count6, hN]
  have v3 : f_count A 3 = f_count B 3 := by rw [f_count3, f_count3, S.1, S.sumW hy h3]
  have v4 : f_count A 4 = f_count B 4 := by rw [f_count4, f_count4, S.1, S.cnt hy h3]
  have v5 : f_count A 5 = f_count B 5 := by rw [f_count5, f_count5, S.1, S.cnt hy h3]
  rw [am_b100_0, if_pos J.k1, e1, x_bI, if_pos J1.k1, e2, x_bI, if_pos J2.k20, e3, x_bI, if_pos v6, if_pos J3.k1, e4, x_bI, if_pos J4.k20, e5, x_bI, if_pos v3, if_pos J5.k1, e6, x_bI, if_pos J6.k20, e7, x_bI, if_pos v4, if_pos J7.k1, e8, x_bI, if_pos J8.k20, e9, x_bI, if_pos v5, f_count0, f_count6, k1, k2, k3, k4]
  exact k5
end alike
