/-! ===== the class's Extremes: worked out, or kept ===== -/
theorem z_row_congr {c : Nat} {g g' : Nat → Nat → Int32} (h3 : c = 2 ∨ c = 3) (h : ∀ p, p < 2 → ∀ k, k < 6 → g p k = g' p k) : ∀ i, i < 2 * c + q_nq c → ∀ k, k < 2 * c → z_row c g i k = z_row c g' i k := by
  intro i hi k hk
  unfold z_row
  by_cases h1 : i < 2 * c
  · rw [if_pos h1, if_pos h1]
  · rw [if_neg h1, if_neg h1, q_ls_congr h3 (by omega) hk h]
theorem z_dot_row {d : Nat} {a a' v : Nat → Int} (h : ∀ k, k < d → a k = a' k) : z_dot d a v = z_dot d a' v := z_sum_congr (fun k hk => by rw [h k hk])
theorem z_ext.row {d n : Nat} {A A' : Nat → Nat → Int} (h : ∀ i, i < n → ∀ k, k < d → A i k = A' i k) {v : Nat → Int} (x : z_ext d n A v) : z_ext d n A' v := ⟨fun i hi => by rw [← z_dot_row (h i hi)]; exact x.1 i hi, x.2.1, fun w hw => x.2.2 w (fun i hi z => by
  rw [z_dot_row (h i hi)] at z ⊢
  exact hw i hi z)⟩
theorem z_list.congr {c : Nat} {g g' : Nat → Nat → Int32} (h3 : c = 2 ∨ c = 3) (h : ∀ p, p < 2 → ∀ k, k < 6 → g p k = g' p k) {E : Nat × (Nat → Nat → Int64)} (x : z_list c g E) : z_list c g' E := by
  have r := z_row_congr h3 h
  have r' := fun i hi k hk => (z_row_congr h3 h i hi k hk).symm
  obtain ⟨x1, x2, x3, x4⟩ := x
  exact ⟨x1, fun i hi => ⟨(x2 i hi).1.row r, (x2 i hi).2⟩, fun v hv => x3 v (hv.row r'), x4⟩
/-- the list that counts is the one of a game -/
def xV (h : AH) (b c : Nat) (g : Nat → Nat → Int32) (N : Nat) (E : Nat → Nat → Int64) (τ : Nat → Nat) : Prop := xC h b N E τ ∧ z_list c g (N, E) ∧ (∀ i, i < N → am_J h 12 i = j_sum 6 (E i)) ∧ ∀ i, i < N → xB c g (q_nq c) (fun k => (E i k).toInt) (τ i)
theorem xB.congr {c t n : Nat} {g g' : Nat → Nat → Int32} (h3 : c = 2 ∨ c = 3) (ht : t ≤ q_nq c) (h : ∀ p, p < 2 → ∀ k, k < 6 → g p k = g' p k) {v : Nat → Int} (x : xB c g t v n) : xB c g' t v n := by
  refine ⟨x.1, fun r => ?_⟩
  rw [x.2 r]
  constructor
  · rintro (z | ⟨q, z1, z2, z3⟩)
    · exact Or.inl z
    · exact Or.inr ⟨q, z1, z2, by rw [← z_dot_row (z_row_congr h3 h _ (by omega))]; exact z3⟩
  · rintro (z | ⟨q, z1, z2, z3⟩)
    · exact Or.inl z
    · exact Or.inr ⟨q, z1, z2, by rw [z_dot_row (z_row_congr h3 h _ (by omega))]; exact z3⟩
theorem xV.congr {h : AH} {b c N : Nat} {g g' : Nat → Nat → Int32} {E : Nat → Nat → Int64} {τ : Nat → Nat} (h3 : c = 2 ∨ c = 3) (e : ∀ p, p < 2 → ∀ k, k < 6 → g p k = g' p k) (x : xV h b c g N E τ) : xV h b c g' N E τ := ⟨x.1, x.2.1.congr h3 e, x.2.2.1, fun i hi => (x.2.2.2 i hi).congr h3 (Nat.le_refl _) e⟩
def xE (h : AH) : Prop := ∃ b, xL h b ∧ (am_I h 6 9 = 0 ∨ ∃ c g N E τ, (c = 2 ∨ c = 3) ∧ am_I h 6 9 = nI c ∧ (∀ p, p < 2 → ∀ k, k < 6 → am_I h 14 (6 * p + k) = g p k) ∧ xV h b c g N E τ)
section worked
variable {h : AH} {s : QS}
theorem sV.G {h : AH} {s : QS} (v : sV h 2 s) : ∀ p, p < 2 → ∀ k, k < 6 → sG h 2 p k = q_g s p k := fun p hp k hk => by
  unfold sG q_g
  exact v.2.2.1 _ (by omega)
theorem x_work27 (w : q_wf s) : ∀ (d t b N : Nat) (h : AH) (E : Nat → Nat → Int64) (τ : Nat → Nat), t + d = q_nq s.1 → xC h b N E τ → zS s.1 (q_g s) t N E τ → sV h 2 s → ∃ h1 b1 N1 E1 τ1, am_ev 1 27 [.ref 6, .ref 2, .int (nI t)] [] h = some (some (.ref 6), h1) ∧ xF h h1 ∧ xE h1 ∧ xV h1 b1 s.1 (q_g s) N1 E1 τ1 := by
  have h3 := w.c3
  have hg := w.rng
  have h8 := q_nq_le h3
  intro d
  induction d with
  | zero =>
    intro t b N h E τ ht X S v
    obtain rfl : t = q_nq s.1 := by omega
    have m := X.1
    have hb := m.1
    have hN := X.2.2.1
    obtain ⟨h1, e1, f1, s1⟩ := x_sumUp X
    have X1 := X.fr' f1 (fun a z => by omega)
    obtain ⟨h2, E2, τ2, e2, f2, X2, s2, S2, O2⟩ := x_sort h3 hg (Nat.le_refl _) X1 s1 S
    have F2 : xF h h2 := (xF.of f1 (fun a z => by omega)).tr (xF.of f2 (fun a z => by omega))
    have v2 := F2.sV v
    have k2 : am_kd h2 2 = 2 := v2.1.1
    have e9 : am_I h2 2 0 = nI s.1 := v2.1.2.2.2.2.2.2.2.1
    have f3 : am_fr h2 (am_sI h2 6 9 (nI s.1)) (fun a => a = 6) := am_sI_fr rfl
    have F3 : xF h2 (am_sI h2 6 9 (nI s.1)) := xF.of f3 (fun a z => by omega)
    have v3 := F3.sV v2
    have m3 : xL (am_sI h2 6 9 (nI s.1)) b := X2.1.fr f3
    have k3 : am_kd (am_sI h2 6 9 (nI s.1)) 2 = 2 := v3.1.1
    have r3 : am_R (am_sI h2 6 9 (nI s.1)) 2 2 = some 3 := v3.1.2.1
    have kd3 : am_kd (am_sI h2 6 9 (nI s.1)) 3 = 5 ∧ am_ln (am_sI h2 6 9 (nI s.1)) 3 = 12 := v3.1.2.2.2.2.1
    generalize hM : am_sI h2 6 9 (nI s.1) = M at f3 F3 v3 m3 k3 r3 kd3
    have XM : xC M b N E2 τ2 := by
      obtain ⟨x0, x1, x2, x3, x4⟩ := X2
      refine ⟨m3, ?_, x2, fun i hi k hk => ?_, fun i hi => ?_⟩
      · rw [← hM, am_sI_I, am_ud_ne (by omega)]; exact x1
      · rw [← hM]; exact x3 i hi k hk
      · rw [← hM, am_sI_ne (by omega)]; exact x4 i hi
    have sM : ∀ i, i < N → am_J M 12 i = j_sum 6 (E2 i) := fun i hi => by rw [← hM]; exact s2 i hi
    have e9M : am_I M 6 9 = nI s.1 := by rw [← hM, am_sI_I, am_ud_eq]
    generalize hR : am_rI M 14 (am_cpy (am_I M 3) (am_I M 14) 0 0 12) = R
    have f4 : am_fr M R (fun a => a = 14) := by rw [← hR]; exact am_fr_rI rfl
    have XR := XM.fr' f4 (fun a z => by omega)
    have sR : ∀ i, i < N → am_J R 12 i = j_sum 6 (E2 i) := fun i hi => by rw [← hR]; exact sM i hi
    generalize hE3 : (fun i k => if k < 6 then E2 i k else 0) = E3
    have eE3 : ∀ i k, k < 6 → E3 i k = E2 i k := fun i k hk => by rw [← hE3]; exact if_pos hk
    have eE6 : ∀ i k, 6 ≤ k → E3 i k = 0 := fun i k hk => by rw [← hE3]; exact if_neg (by omega)
    have h6 : 2 * s.1 ≤ 6 := by rcases h3 with e | e <;> omega
    have XR3 : xC R b N E3 τ2 := by
      obtain ⟨x0, x1, x2, x3, x4⟩ := XR
      exact ⟨x0, x1, x2, fun i hi k hk => by rw [eE3 i k hk]; exact x3 i hi k hk, x4⟩
    have VR : xV R b s.1 (q_g s) N E3 τ2 := by
      refine ⟨XR3, ⟨⟨?_, hN⟩, fun i hi => ⟨?_, fun k hk => ?_⟩, fun v hv => ?_, fun i j hij hj => ?_⟩, fun i hi => ?_, fun i hi => ?_⟩
      · obtain ⟨v, hv⟩ := z_some h3 hg
        obtain ⟨i, hi, -⟩ := S2.2 v hv
        show 0 < N
        omega
      · exact (S2.1.1 i hi).1.congr (fun k hk => by
          show (E2 i k).toInt = (E3 i k).toInt
          rw [eE3 i k (by omega)])
      · show E3 i k = 0
        by_cases hk6 : k < 6
        · rw [eE3 i k hk6]; exact (S2.1.1 i hi).2.1 k hk6 hk
        · exact eE6 i k (by omega)
      · obtain ⟨i, hi, e⟩ := S2.2 v hv
        exact ⟨i, hi, fun k hk => by
          show (E3 i k).toInt = v k
          rw [eE3 i k (by omega)]; exact e k hk⟩
      · exact (O2 i j hij hj).congr (fun k hk => by
          show (E2 i k).toInt = (E3 i k).toInt
          rw [eE3 i k (by omega)]) (fun k hk => by
          show (E2 j k).toInt = (E3 j k).toInt
          rw [eE3 j k (by omega)])
      · rw [sR i hi]
        exact j_sum_congr (fun k hk => (eE3 i k hk).symm)
      · have hx := (S2.1.1 i hi).2.2
        have ed : ∀ r, z_dot (2 * s.1) r (fun k => (E3 i k).toInt) = z_dot (2 * s.1) r (fun k => (E2 i k).toInt) := fun r => z_dot_congr (fun k hk => by rw [eE3 i k (by omega)])
        refine ⟨hx.1, fun r => ?_⟩
        rw [hx.2 r]
        simp only [ed]
        constructor
        · rintro (⟨z1, z2⟩ | z)
          · exact Or.inl ⟨z1, by rw [eE3 i r (by omega)]; exact z2⟩
          · exact Or.inr z
        · rintro (⟨z1, z2⟩ | z)
          · exact Or.inl ⟨z1, by rw [eE3 i r (by omega)] at z2; exact z2⟩
          · exact Or.inr z
    refine ⟨R, b, N, E3, τ2, ?_, F2.tr (F3.tr (xF.of f4 (fun a z => by omega))), ⟨b, XR.1, Or.inr ⟨s.1, q_g s, N, E3, τ2, h3, ?_, fun p hp k hk => ?_, VR⟩⟩, VR⟩
    · rw [am_b1_27, if_pos v.1.1, s_inequalities v.1, x_bI, if_neg (by rw [x_lt (by omega) (by omega)]; omega), if_pos m.k, e1, x_bV, if_pos X1.1.k, e2, x_bV, if_pos k2, if_pos X2.1.k, e9, hM]
      try dsimp only
      have z0 : Int32.toNatClampNeg (0 : Int32) = 0 := rfl
      have z12 : Int32.toNatClampNeg (12 : Int32) = 12 := rfl
      rw [if_pos k3, r3, x_oe, if_pos m3.k, m3.og, x_oe]
      simp only [z0, z12]
      rw [kd3.1, kd3.2, m3.k14, m3.l14, if_pos (by decide), hR]
    · rw [f4.2.2.1 6 (by omega)]; exact e9M
    · rw [← hR, am_rI_I, am_cpy_lt (by omega)]
      exact v3.2.2.1 _ (by omega)
  | succ d ih =>
    intro t b N h E τ ht X S v
    have m := X.1
    obtain ⟨h1, N1, E1, τ1, e1, F1, X1, S1⟩ := x_cutWith h3 (show t < q_nq s.1 by omega) hg S X v.1 v.G
    obtain ⟨h2, b2, N2, E2, τ2, e2, F2, r2⟩ := ih (t + 1) (1 - b) N1 h1 E1 τ1 (by omega) X1 S1 (F1.sV v)
    refine ⟨h2, b2, N2, E2, τ2, ?_, F1.tr F2, r2⟩
    rw [am_b1_27, if_pos v.1.1, s_inequalities v.1, x_bI, if_pos (by rw [x_lt (by omega) (by omega)]; omega), if_pos m.k, e1, x_bV, nI_1]
    exact e2
theorem x_worked (C : xE h) (v : sV h 2 s) (w : q_wf s) : ∃ h1 b N E τ, am_ev 1 0 [.ref 6, .ref 2, am_ph] [] h = some (some (.ref 6), h1) ∧ xF h h1 ∧ xE h1 ∧ xV h1 b s.1 (q_g s) N E τ := by
  have h3 := w.c3
  obtain ⟨b, m, C2⟩ := id C
  obtain ⟨x, ex, hx⟩ := s_isSameGame (x := am_I h 6 9) v.1 m.k14 m.l14
  rw [am_b1_0, if_pos m.k, if_pos m.k, m.og, x_oe, if_pos v.1.1, ex, x_bI]
  rcases hx with ⟨x1, x2, x3⟩ | ⟨x0, -⟩
  · rw [if_neg (by rw [x1]; decide)]
    rcases C2 with z | ⟨c, g, N, E, τ, c3, e9, eg, V⟩
    · rw [z] at x2
      exact absurd x2 (nI_ne0 (by omega) (by omega))
    · have ec : s.1 = c := (nI_eq (by omega) (by omega)).1 (x2.trans e9)
      rw [← ec] at V
      refine ⟨h, b, N, E, τ, rfl, xF.rf, C, V.congr h3 (fun p hp k hk => ?_)⟩
      rw [← eg p hp k hk, ← x3 _ (by omega)]
      exact v.2.2.1 _ (by omega)
  · obtain ⟨h1, e1, F1, X1⟩ := x_single (h := h) h3 m
    have v1 := F1.sV v
    obtain ⟨h2, b2, N2, E2, τ2, e2, F2, r2⟩ := x_work27 w (q_nq s.1) 0 (1 - b) _ h1 _ _ (by omega) X1 (z_S0 h3) v1
    rw [nI_0] at e2
    refine ⟨h2, b2, N2, E2, τ2, ?_, F1.tr F2, r2⟩
    rw [if_pos x0, if_pos v.1.1, s_cells v.1, x_bI, if_pos m.k, e1, x_bV]
    exact e2
end worked
