/-! ===== the class's Extremes: the order, the sort ===== -/
section sort2
variable {h : AH} {c t N b : Nat} {g : Nat → Nat → Int32} {E : Nat → Nat → Int64} {τ : Nat → Nat}
/-- the order of two of the list -/
def zB (c : Nat) (E : Nat → Nat → Int64) (i j : Nat) : Prop := z_bef (2 * c) (fun k => (E i k).toInt) (fun k => (E j k).toInt)
theorem zG.sum (h3 : c = 2 ∨ c = 3) (hg : z_rng g) (ht : t ≤ q_nq c) {e : Nat → Int64} {n : Nat} (G : zG c g t e n) : (j_sum 6 e).toInt = z_sum (2 * c) (fun k => (e k).toInt) ∧ 0 < (j_sum 6 e).toInt ∧ (j_sum 6 e).toInt ≤ 816293376 := by
  have h6 : 2 * c ≤ 6 := by rcases h3 with e | e <;> omega
  have bd := G.bnd h3 hg ht
  obtain ⟨j1, j2, j3⟩ := j_sum_int (B := 136048896) (f := e) (by omega) 6 (by omega) (fun k hk => by have := bd k hk; omega)
  have e1 : (j_sum 6 e).toInt = z_sum (2 * c) (fun k => (e k).toInt) := by
    rw [j1]
    obtain ⟨r, hr⟩ : ∃ r, 6 = 2 * c + r := ⟨6 - 2 * c, by omega⟩
    rw [hr, z_sum_split, z_sum_congr (n := r) (g := fun _ => 0) (fun k hk => by
      rw [G.2.1 (2 * c + k) (by omega) (by omega)]
      rfl), z_sum_0, Int.add_zero]
  refine ⟨e1, ?_, by omega⟩
  rw [e1]
  exact G.1.sum z_row_unit
theorem x_before (h3 : c = 2 ∨ c = 3) (hg : z_rng g) (ht : t ≤ q_nq c) (P : zP c g t N E τ) (X : xC h b N E τ) (hs : ∀ i, i < N → am_J h 12 i = j_sum 6 (E i)) {i j : Nat} (hi : i < N) (hj : j < N) : ∃ v : Int32, am_ev 26 0 [.ref 6, .int (nI i), .int (nI j), am_ph, am_ph, am_ph, am_ph, am_ph] [] h = some (some (.int v), h) ∧ (v = 1 ∧ zB c E i j ∨ v = 0 ∧ ¬ zB c E i j) := by
  have m := X.1
  have hN := X.2.2.1
  have h6 : 2 * c ≤ 6 := by rcases h3 with e | e <;> omega
  have Gi := P.1 i hi
  have Gj := P.1 j hj
  have bi := Gi.bnd h3 hg ht
  have bj := Gj.bnd h3 hg ht
  have si := Gi.sum h3 hg ht
  have sj := Gj.sum h3 hg ht
  have pv : ∀ k, k < 6 → (E i k * j_sum 6 (E j)).toInt = (E i k).toInt * z_sum (2 * c) (fun k => (E j k).toInt) ∧ (E j k * j_sum 6 (E i)).toInt = (E j k).toInt * z_sum (2 * c) (fun k => (E i k).toInt) := fun k hk => by
    have b1 := bi k hk
    have b2 := bj k hk
    have p1 : 0 ≤ (E i k).toInt * (j_sum 6 (E j)).toInt ∧ (E i k).toInt * (j_sum 6 (E j)).toInt ≤ 136048896 * 816293376 := ⟨Int.mul_nonneg b1.1 (by omega), Int.mul_le_mul b1.2 sj.2.2 (by omega) (by omega)⟩
    have p2 : 0 ≤ (E j k).toInt * (j_sum 6 (E i)).toInt ∧ (E j k).toInt * (j_sum 6 (E i)).toInt ≤ 136048896 * 816293376 := ⟨Int.mul_nonneg b2.1 (by omega), Int.mul_le_mul b2.2 si.2.2 (by omega) (by omega)⟩
    constructor
    · rw [y_mul (by omega) (by omega), sj.1]
    · rw [y_mul (by omega) (by omega), si.1]
  have key : ∀ d k, k + d = 6 → (∀ q, q < k → (E i q).toInt * z_sum (2 * c) (fun k => (E j k).toInt) = (E j q).toInt * z_sum (2 * c) (fun k => (E i k).toInt)) → ∃ v : Int32, am_ev 26 2 [.ref 6, .int (nI i), .int (nI j), .int (nI k), am_ph, am_ph, am_ph, am_ph] [] h = some (some (.int v), h) ∧ (v = 1 ∧ zB c E i j ∨ v = 0 ∧ ¬ zB c E i j) := by
    intro d
    induction d with
    | zero =>
      intro k hk hq
      refine ⟨0, ?_, Or.inr ⟨rfl, ?_⟩⟩
      · rw [am_b26_2, x_c6, if_neg (by rw [x_lt (by omega) (by omega)]; omega)]
      · rintro ⟨q, q1, q2, q3⟩
        dsimp only at q3
        have := hq q (by omega)
        omega
    | succ d ih =>
      intro k hk hq
      have p := pv k (by omega)
      rw [am_b26_2, x_c6, if_pos (by rw [x_lt (by omega) (by omega)]; omega), if_pos m.k, x_weight X hi (by omega), x_bJ, if_pos m.k, x_sumAt m (by omega), x_bJ, if_pos m.k, x_weight X hj (by omega), x_bJ, if_pos m.k, x_sumAt m (by omega), x_bJ, hs i hi, hs j hj]
      simp only [lg_cmp_eq, lg_cmp_gt, y_lt, y_eq, p.1, p.2]
      by_cases h1 : (E i k).toInt * z_sum (2 * c) (fun k => (E j k).toInt) = (E j k).toInt * z_sum (2 * c) (fun k => (E i k).toInt)
      · rw [if_pos h1, nI_1]
        refine ih (k + 1) (by omega) (fun q hq' => ?_)
        by_cases e : q = k
        · rw [e]; exact h1
        · exact hq q (by omega)
      · have hk2 : k < 2 * c := Classical.byContradiction (fun z => h1 (by
          rw [Gi.2.1 k (by omega) (by omega), Gj.2.1 k (by omega) (by omega)]
          simp [show (0 : Int64).toInt = 0 from rfl]))
        rw [if_neg h1]
        by_cases h2 : (E j k).toInt * z_sum (2 * c) (fun k => (E i k).toInt) < (E i k).toInt * z_sum (2 * c) (fun k => (E j k).toInt)
        · rw [if_pos h2]
          exact ⟨1, rfl, Or.inl ⟨rfl, k, hk2, hq, h2⟩⟩
        · rw [if_neg h2]
          refine ⟨0, rfl, Or.inr ⟨rfl, ?_⟩⟩
          rintro ⟨q, q1, q2, q3⟩
          dsimp only at q3
          rcases (show q < k ∨ q = k ∨ k < q by omega) with e | e | e
          · have := hq q e; omega
          · subst e; omega
          · exact h1 (q2 k e)
  obtain ⟨v, e, hv⟩ := key 6 0 (by omega) (fun q hq => by omega)
  rw [nI_0] at e
  exact ⟨v, by rw [am_b26_0, e], hv⟩
theorem zP.sw (P : zP c g t N E τ) {j : Nat} (hj : j + 1 < N) : zP c g t N (z_sw E j) (z_sw τ j) := by
  have val : ∀ i, i < N → ∃ i', i' < N ∧ z_sw E j i = E i' ∧ z_sw τ j i = τ i' ∧ (i = j + 1 → i' = j) ∧ (i = j → i' = j + 1) ∧ (i ≠ j → i ≠ j + 1 → i' = i) := fun i hi => by
    by_cases e1 : i = j + 1
    · exact ⟨j, by omega, by rw [e1, z_sw_1], by rw [e1, z_sw_1], by omega, by omega, by omega⟩
    · by_cases e0 : i = j
      · exact ⟨j + 1, hj, by rw [e0, z_sw_0], by rw [e0, z_sw_0], by omega, by omega, by omega⟩
      · exact ⟨i, hi, z_sw_n e1 e0, z_sw_n e1 e0, by omega, by omega, by omega⟩
  refine ⟨fun i hi => ?_, fun i i2 hii hi2 => ?_⟩
  · obtain ⟨i', hi', e1, e2, -⟩ := val i hi
    rw [e1, e2]
    exact P.1 i' hi'
  · obtain ⟨a, ha, e1, -, r1, r2, r3⟩ := val i (by omega)
    obtain ⟨a2, ha2, e2, -, s1, s2, s3⟩ := val i2 hi2
    rw [e1, e2]
    rcases (show a < a2 ∨ a = a2 ∨ a2 < a by omega) with e | e | e
    · exact P.2 a a2 e ha2
    · omega
    · obtain ⟨k, hk, hn⟩ := P.2 a2 a e ha
      exact ⟨k, hk, fun z => hn z.symm⟩
theorem zS.sw (S : zS c g t N E τ) {j : Nat} (hj : j + 1 < N) : zS c g t N (z_sw E j) (z_sw τ j) := by
  refine ⟨S.1.sw hj, fun v hv => ?_⟩
  obtain ⟨i, hi, e⟩ := S.2 v hv
  by_cases e1 : i = j + 1
  · exact ⟨j, by omega, fun k hk => by rw [z_sw_0, ← e1]; exact e k hk⟩
  · by_cases e0 : i = j
    · exact ⟨j + 1, hj, fun k hk => by rw [z_sw_1, ← e0]; exact e k hk⟩
    · exact ⟨i, hi, fun k hk => by rw [z_sw_n e1 e0]; exact e k hk⟩
theorem zP.tri (P : zP c g t N E τ) {i j : Nat} (hi : i < N) (hj : j < N) (hn : i ≠ j) : zB c E i j ∨ zB c E j i := by
  rcases z_tri z_row_unit (P.1 i hi).1 (P.1 j hj).1 with z | z | z
  · exact absurd (P.ne hi hj z) hn
  · exact Or.inl z
  · exact Or.inr z
theorem zP.trans (P : zP c g t N E τ) {i j k : Nat} (hi : i < N) (hj : j < N) (hk : k < N) (a : zB c E i j) (b : zB c E j k) : zB c E i k := z_bef.trans ((P.1 i hi).1.sum z_row_unit) ((P.1 j hj).1.sum z_row_unit) ((P.1 k hk).1.sum z_row_unit) a b
/-- up to e sorted, but for l, which comes before those behind it -/
def xOrd (c : Nat) (E : Nat → Nat → Int64) (e l : Nat) : Prop := (∀ i j, i < j → j ≤ e → i ≠ l → j ≠ l → zB c E i j) ∧ ∀ j, l < j → j ≤ e → zB c E l j
theorem x_sort12 (h3 : c = 2 ∨ c = 3) (hg : z_rng g) (ht : t ≤ q_nq c) {e : Nat} (he : e < N) : ∀ (l : Nat) (M : AH) (E : Nat → Nat → Int64) (τ : Nat → Nat), l ≤ e → xC M b N E τ → (∀ i, i < N → am_J M 12 i = j_sum 6 (E i)) → zS c g t N E τ → xOrd c E e l → ∃ M1 E1 τ1, am_ev 25 12 [.ref 6, .int (nI e), .int (nI l)] [] M = am_ev 25 2 [.ref 6, .int (nI (e + 1)), am_ph] [] M1 ∧ am_fr M M1 (fun a => 6 < a ∧ a < 13) ∧ xC M1 b N E1 τ1 ∧ (∀ i, i < N → am_J M1 12 i = j_sum 6 (E1 i)) ∧ zS c g t N E1 τ1 ∧ ∀ i j, i < j → j ≤ e → zB c E1 i j := by
  intro l
  induction l with
  | zero =>
    intro M E τ hl X hs S O
    refine ⟨M, E, τ, ?_, am_fr.rf, X, hs, S, fun i j hij hj => ?_⟩
    · rw [am_b25_12, nI_0, if_neg (by decide), nI_1]
    · by_cases e0 : i = 0
      · rw [e0]; exact O.2 j (by omega) hj
      · exact O.1 i j hij hj e0 (by omega)
  | succ l ih =>
    intro M E τ hl X hs S O
    have m := X.1
    have hb := m.1
    have hN := X.2.2.1
    obtain ⟨v, ev, hv⟩ := x_before h3 hg ht S.1 X hs (show l + 1 < N by omega) (show l < N by omega)
    have hpos : (0 : Int32) < nI (l + 1) := by rw [← nI_0, x_lt (by omega) (by omega)]; omega
    rw [am_b25_12, x_m1, if_pos hpos, if_pos m.k, x_c1, x_sub (by omega), show l + 1 - 1 = l by omega, ev, x_bI]
    rcases hv with ⟨v1, hv⟩ | ⟨v0, hv⟩
    · obtain ⟨M1, e1, f1, X1, s1⟩ := x_exch X hs (j := l) (by omega)
      have S1 := S.sw (j := l) (by omega)
      obtain ⟨M2, E2, τ2, e2, f2, r2⟩ := ih M1 (z_sw E l) (z_sw τ l) (by omega) X1 (fun i hi => by
        rw [s1 i hi]
        unfold z_sw
        split
        · rfl
        · split <;> rfl) S1 ⟨fun i j hij hj n1 n2 => by
          unfold zB
          by_cases ej : j = l + 1
          · rw [ej, z_sw_1, z_sw_n (by omega) (by omega)]
            exact O.1 i l (by omega) (by omega) (by omega) (by omega)
          · rw [z_sw_n (show j ≠ l + 1 by omega) n2]
            by_cases ei : i = l + 1
            · rw [ei, z_sw_1]
              exact O.1 l j (by omega) hj (by omega) (by omega)
            · rw [z_sw_n ei n1]
              exact O.1 i j hij hj ei ej, fun j hlj hj => by
          unfold zB
          rw [z_sw_0]
          by_cases ej : j = l + 1
          · rw [ej, z_sw_1]; exact hv
          · rw [z_sw_n ej (by omega)]
            exact O.2 j (by omega) hj⟩
      refine ⟨M2, E2, τ2, ?_, (f1.wk (fun a z => by omega)).tr f2, r2⟩
      rw [if_neg (by rw [v1]; decide), if_pos m.k, e1, x_bV]
      exact e2
    · have hb2 : zB c E l (l + 1) := (S.1.tri (show l < N by omega) (show l + 1 < N by omega) (by omega)).resolve_right hv
      refine ⟨M, E, τ, ?_, am_fr.rf, X, hs, S, fun i j hij hj => ?_⟩
      · rw [if_pos v0, nI_add]
      · by_cases ei : i = l + 1
        · rw [ei]; exact O.2 j (by omega) hj
        · by_cases ej : j = l + 1
          · rw [ej]
            by_cases ei2 : i = l
            · rw [ei2]; exact hb2
            · exact S.1.trans (by omega) (show l < N by omega) (by omega) (O.1 i l (by omega) (by omega) ei (by omega)) hb2
          · exact O.1 i j hij hj ei ej
theorem x_sort (h3 : c = 2 ∨ c = 3) (hg : z_rng g) (ht : t ≤ q_nq c) (X : xC h b N E τ) (hs : ∀ i, i < N → am_J h 12 i = j_sum 6 (E i)) (S : zS c g t N E τ) : ∃ h1 E1 τ1, am_ev 25 0 [.ref 6, am_ph, am_ph] [] h = some (none, h1) ∧ am_fr h h1 (fun a => 6 < a ∧ a < 13) ∧ xC h1 b N E1 τ1 ∧ (∀ i, i < N → am_J h1 12 i = j_sum 6 (E1 i)) ∧ zS c g t N E1 τ1 ∧ ∀ i j, i < j → j < N → zB c E1 i j := by
  have hN := X.2.2.1
  have key : ∀ d e, e + d = N → ∀ (M : AH) (E : Nat → Nat → Int64) (τ : Nat → Nat), 0 < e → xC M b N E τ → (∀ i, i < N → am_J M 12 i = j_sum 6 (E i)) → zS c g t N E τ → (∀ i j, i < j → j < e → zB c E i j) → ∃ h1 E1 τ1, am_ev 25 2 [.ref 6, .int (nI e), am_ph] [] M = some (none, h1) ∧ am_fr M h1 (fun a => 6 < a ∧ a < 13) ∧ xC h1 b N E1 τ1 ∧ (∀ i, i < N → am_J h1 12 i = j_sum 6 (E1 i)) ∧ zS c g t N E1 τ1 ∧ ∀ i j, i < j → j < N → zB c E1 i j := by
    intro d
    induction d with
    | zero =>
      intro e he M E τ he0 X hs S O
      refine ⟨M, E, τ, ?_, am_fr.rf, X, hs, S, fun i j hij hj => O i j hij (by omega)⟩
      rw [am_b25_2, if_pos X.1.k, X.2.1, if_neg (by rw [x_lt (by omega) (by omega)]; omega)]
    | succ d ih =>
      intro e he M E τ he0 X hs S O
      obtain ⟨M1, E1, τ1, e1, f1, X1, s1, S1, O1⟩ := x_sort12 h3 hg ht (show e < N by omega) e M E τ (Nat.le_refl _) X hs S ⟨fun i j hij hj n1 n2 => O i j hij (by omega), fun j hj1 hj2 => by omega⟩
      obtain ⟨M2, E2, τ2, e2, f2, r2⟩ := ih (e + 1) (by omega) M1 E1 τ1 (by omega) X1 s1 S1 (fun i j hij hj => O1 i j hij (by omega))
      refine ⟨M2, E2, τ2, ?_, f1.tr f2, r2⟩
      rw [am_b25_2, if_pos X.1.k, X.2.1, if_pos (by rw [x_lt (by omega) (by omega)]; omega), e1]
      exact e2
  rcases Nat.eq_zero_or_pos N with e0 | e0
  · refine ⟨h, E, τ, ?_, am_fr.rf, X, hs, S, fun i j hij hj => by omega⟩
    rw [am_b25_0, am_b25_2, if_pos X.1.k, X.2.1, if_neg (by rw [x_c1, x_lt (by omega) (by omega)]; omega)]
  · obtain ⟨h1, E1, τ1, e1, r1⟩ := key (N - 1) 1 (by omega) h E τ (by omega) X hs S (fun i j hij hj => by omega)
    exact ⟨h1, E1, τ1, by rw [am_b25_0, x_c1, e1], r1⟩
end sort2
