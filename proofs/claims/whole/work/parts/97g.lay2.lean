/-! ===== the Model: all extreme dice laid ===== -/
section lay2
variable {h : AH} {A : QA}
/-- every choice before p that leaves an extreme vector alone has put it into the list -/
def mCov (c m : Nat) (g : Nat → Nat → Int32) (N : Nat) (E : Nat → Nat → Int64) (P : (Nat → Nat) → Prop) : Prop := ∀ q, vP m (2 * c + q_nq c) q → P q → ∀ v, z_ext (2 * c) (2 * c + q_nq c) (z_row c g) v → (∀ r, r < m → z_dot (2 * c) (z_row c g (q r)) v = 0) → (∀ w, (∀ r, r < m → z_dot (2 * c) (z_row c g (q r)) w = 0) → ∃ a b : Int, a ≠ 0 ∧ ∀ k, k < 2 * c → a * w k = b * v k) → ∃ i, i < N ∧ ∀ k, k < 2 * c → (E i k).toInt = v k
theorem z_prim_pm {d : Nat} {v w : Nat → Int} {a b : Int} (hv : z_prim d v) (hw : z_prim d w) (ha : a ≠ 0) (e : ∀ k, k < d → a * w k = b * v k) : (∀ k, k < d → w k = v k) ∨ ∀ k, k < d → w k = -v k := by
  have h := z_gcd_congr (v := fun k => a * w k) (w := fun k => b * v k) d e
  rw [z_gcd_mul, z_gcd_mul, hv.g, hw.g] at h
  have h2 : a = b ∨ a = -b := by omega
  rcases h2 with h2 | h2
  · left
    intro k hk
    have := e k hk
    rw [← h2] at this
    exact Int.eq_of_mul_eq_mul_left ha this
  · right
    intro k hk
    have := e k hk
    have hb : b = -a := by omega
    rw [hb, Int.neg_mul, ← Int.mul_neg] at this
    exact Int.eq_of_mul_eq_mul_left ha this
theorem mSc.li {h1 : AH} {N : Nat} {E : Nat → Nat → Int64} (s : mSc h h1) (L : mLi h N E) : mLi h1 N E := ⟨by rw [s.2.2.2.1 10 (by omega) (by omega) (by omega)]; exact L.1, fun i hi k hk => by rw [s.2.2.2.2 25 (by omega)]; exact L.2.1 i hi k hk, fun i hi => by rw [s.2.2.2.2 26 (by omega)]; exact L.2.2 i hi⟩
theorem mPf.li {h1 : AH} {N : Nat} {E : Nat → Nat → Int64} (s : mPf h h1) (L : mLi h N E) : mLi h1 N E := ⟨by rw [s.2.2.1 20 (by omega)]; exact L.1, fun i hi k hk => by rw [s.2.2.2]; exact L.2.1 i hi k hk, fun i hi => by rw [s.2.2.2]; exact L.2.2 i hi⟩
/-- what laying leaves as it was -/
def mLay (h h1 : AH) : Prop := mfr h h1 ∧ am_I h1 20 11 = am_I h 20 11
theorem mLay.tr {h1 h2 : AH} (a : mLay h h1) (b : mLay h1 h2) : mLay h h2 := ⟨a.1.tr b.1, b.2.trans a.2⟩
theorem mSc.ly {h1 : AH} (s : mSc h h1) : mLay h h1 := ⟨s.fr, s.2.2.2.1 11 (by omega) (by omega) (by omega)⟩
theorem mPf.ly {h1 : AH} (s : mPf h h1) : mLay h h1 := ⟨s.fr, by rw [s.2.2.1 20 (by omega)]⟩
theorem mLf.ly {h1 : AH} (s : mLf h h1) : mLay h h1 := ⟨s.fr, s.2.2.2.1 11 (by omega)⟩
theorem m_lay40 (hg : z_rng (q_g A.1)) {m : Nat} (hm : m + 1 = 2 * A.1.1) : ∀ (F : Nat) (h : AH) (p : Nat → Nat) (N : Nat) (E : Nat → Nat → Int64), 16 ^ m ≤ z_c16 m p + F → mI h A → vP m (2 * A.1.1 + q_nq A.1.1) p → (∀ r, r < m → am_I h 27 r = nI (p r)) → mLi h N E → zQ A.1.1 (q_g A.1) N E → mCov A.1.1 m (q_g A.1) N E (fun q => vL m q p) → ∃ h1 N1 E1, am_ev 124 40 [.ref 20, .int (1 : Int32), am_ph] [] h = some (none, h1) ∧ mI h1 A ∧ mLay h h1 ∧ mLi h1 N1 E1 ∧ zQ A.1.1 (q_g A.1) N1 E1 ∧ mCov A.1.1 m (q_g A.1) N1 E1 (fun _ => True) := by
  intro F
  induction F with
  | zero =>
    intro h p N E hF I v
    have h3 := I.c3
    have h8 := q_nq_le h3
    have h6 := I.c6
    have := z_c16_lt (p := p) m (fun r hr => by have := v.2 r hr; omega)
    omega
  | succ F ih =>
    intro h p N E hF I v hp L Q C
    have h3 := I.c3
    have h6 := I.c6
    have h8 := q_nq_le h3
    have mm := I.1
    -- the next choice, and on
    have goOn : ∀ (M : AH) (N1 : Nat) (E1 : Nat → Nat → Int64), mI M A → mLay h M → (∀ r, r < m → am_I M 27 r = nI (p r)) → mLi M N1 E1 → zQ A.1.1 (q_g A.1) N1 E1 → mCov A.1.1 m (q_g A.1) N1 E1 (fun q => vL m q p ∨ ∀ r, r < m → q r = p r) → ∃ h1 N2 E2, am_bI (am_ev 123 0 [.ref 20, am_ph, am_ph, am_ph, am_ph] [] M) (fun x h4 => am_ev 124 40 [.ref 20, .int x, am_ph] [] h4) = some (none, h1) ∧ mI h1 A ∧ mLay h h1 ∧ mLi h1 N2 E2 ∧ zQ A.1.1 (q_g A.1) N2 E2 ∧ mCov A.1.1 m (q_g A.1) N2 E2 (fun _ => True) := by
      intro M N1 E1 IM lM hpM LM QM CM
      obtain ⟨h1, b, e1, s1, r1⟩ := m_next IM hm v hpM
      rw [e1, x_bI]
      rcases r1 with ⟨b1, p', q1, q2, q3, q4⟩ | ⟨b0, q4⟩
      · have hc := q3.code m (fun r hr => by have := v.2 r hr; omega)
        obtain ⟨h2, N2, E2, e2, I2, l2, r2⟩ := ih h1 p' N1 E1 (by omega) (s1.I IM) q2 q1 (s1.li LM) QM (fun q vq hq => CM q vq (by
          rcases vL.tri m q p with y | y | y
          · exact Or.inr y
          · exact Or.inl y
          · exfalso
            rcases q4 q vq y with w | ⟨i, i1, i2, i3⟩
            · obtain ⟨i, i1, i2, i3⟩ := hq
              rw [w i i1] at i3
              omega
            · obtain ⟨j, j1, j2, j3⟩ := hq
              rcases (show i < j ∨ i = j ∨ j < i by omega) with x | x | x
              · have := j2 i x; omega
              · subst x; omega
              · have := i2 j x; omega))
        rw [b1]
        exact ⟨h2, N2, E2, e2, I2, (lM.tr s1.ly).tr l2, r2⟩
      · rw [b0]
        refine ⟨h1, N1, E1, ?_, s1.I IM, lM.tr s1.ly, s1.li LM, QM, fun q vq _ => CM q vq ?_⟩
        · rw [am_b124_40, if_pos rfl]
        · rcases vL.tri m q p with y | y | y
          · exact Or.inr y
          · exact Or.inl y
          · exact absurd y (q4 q vq)
    obtain ⟨h1, e1, s1, S1⟩ := m_laySys I hm (fun r hr => ⟨hp r hr, v.2 r hr⟩)
    have I1 := s1.I I
    have hcol : ∀ k, k < 2 * A.1.1 → z_sum m (fun i => ((z_row A.1.1 (q_g A.1) (p i) k).natAbs : Int)) ≤ 55 := fun k hk => by
      have a1 := z_sum_sub_seq (f := fun i => ((z_row A.1.1 (q_g A.1) i k).natAbs : Int)) (fun _ => by omega) m (2 * A.1.1 + q_nq A.1.1) p v.1 v.2
      have a2 := z_colsum h3 hg hk
      exact Int.le_trans a1 a2
    have hsm : ∀ i, i < m → ∀ k, k < 2 * A.1.1 → (z_row A.1.1 (q_g A.1) (p i) k).natAbs ≤ 18 := fun i hi k hk => by
      unfold z_row
      by_cases y : p i < 2 * A.1.1
      · rw [if_pos y]
        by_cases w : p i = k
        · rw [if_pos w]; decide
        · rw [if_neg w]; decide
      · rw [if_neg y]
        have := v.2 i hi
        have := q_ls_toInt h3 hg (show p i - 2 * A.1.1 < q_nq A.1.1 by omega) hk
        revert this
        split <;> omega
    have hW : ∀ x, z_prim (2 * A.1.1) x → (∀ w, (∀ i, i < m → z_dot (2 * A.1.1) (z_row A.1.1 (q_g A.1) (p i)) w = 0) → ∃ a b : Int, a ≠ 0 ∧ ∀ k, k < 2 * A.1.1 → a * w k = b * x k) → ∀ k, k < 2 * A.1.1 → (x k).natAbs ≤ 136048896 := fun x hx hk => z_rowsmall h3 hg (Nat.le_refl _) (S := p) (fun r hr => v.2 r (by omega)) (fun r r' a b => v.1 r r' a (by omega)) hx (fun w hw => hk w (fun i hi => hw i (by omega)))
    have h27 : ∀ {M M1 : AH}, mSc M M1 → (∀ r, r < m → am_I M 27 r = nI (p r)) → ∀ r, r < m → am_I M1 27 r = nI (p r) := fun s hM r hr => by rw [s.2.2.1 27 (by omega) (by omega)]; exact hM r hr
    rw [am_b124_40, if_neg (by decide), if_pos mm.k, e1, x_bV, if_pos I1.1.k]
    obtain ⟨h2, s2, r2⟩ := m_solve I1 hm S1 hsm hcol
    have I2 := s2.I I1
    rcases r2 with ⟨f, e2, O2⟩ | ⟨e2, O2⟩
    · have hf : f < 2 * A.1.1 := by
        obtain ⟨piv, T, R, -, -, -, -, -, hf, -⟩ := O2
        exact hf
      have hf6 : ¬ nI f = (-6 : Int32) := fun z => by
        have := congrArg Int32.toInt z
        rw [nI_toInt (by omega), show (-6 : Int32).toInt = -6 from rfl] at this
        omega
      obtain ⟨h3', x, e3, s3, x1, x2, x3, x4, x5, x6, x7⟩ := m_sol I2 hm O2 hW
      have I3 := s3.I I2
      obtain ⟨b, h4, e4, l4, r4⟩ := m_obeyed I3 hg x1 x5
      have s4 := l4.sc
      have I4 := s4.I I3
      have sAll := s1.tr (s2.tr (s3.tr s4))
      have L4 := sAll.li L
      have p4 := h27 sAll hp
      rw [e2, x_bI, if_neg hf6, if_pos I2.1.k, e3, x_bV, if_pos I3.1.k, e4, x_bI]
      -- an extreme vector that this choice leaves alone is x
      have uniq : ∀ y, z_ext (2 * A.1.1) (2 * A.1.1 + q_nq A.1.1) (z_row A.1.1 (q_g A.1)) y → (∀ r, r < m → z_dot (2 * A.1.1) (z_row A.1.1 (q_g A.1) (p r)) y = 0) → ∀ k, k < 2 * A.1.1 → y k = x k := fun y hy hy0 => by
        obtain ⟨a, b, ha, e⟩ := x4 y hy0
        rcases z_prim_pm x2 hy.2.1 ha e with z | z
        · exact z
        · exfalso
          have q1 := z f x6
          have q2 := hy.1.nn z_row_unit f x6
          omega
      rcases r4 with ⟨b1, hfe⟩ | ⟨b0, hnf⟩
      · rw [if_neg (by rw [b1]; decide), if_pos I4.1.k]
        generalize he : (fun k => if k < 2 * A.1.1 then am_J h4 30 k else 0) = e
        have ee : ∀ k, k < 2 * A.1.1 → am_J h4 30 k = e k := fun k hk => by rw [← he]; exact (if_pos hk).symm
        have ex : ∀ k, k < 2 * A.1.1 → (e k).toInt = x k := fun k hk => by rw [← ee k hk, l4.2.2.2.2]; exact x1 k hk
        have hxe : z_ext (2 * A.1.1) (2 * A.1.1 + q_nq A.1.1) (z_row A.1.1 (q_g A.1)) x := ⟨hfe, x2, fun w hw => x4 w (fun i hi => hw (p i) (v.2 i hi) (x3 i hi))⟩
        obtain ⟨h5, N5, E5, e5, f5, L5, Q5, k5, n5⟩ := m_insert I4 hg L4 Q (hxe.congr (fun k hk => (ex k hk).symm)) (fun k hk => by rw [← he]; exact if_neg (by omega)) ee
        have I5 := f5.I I4
        rw [e5, x_bV, if_pos I5.1.k]
        refine goOn h5 N5 E5 I5 (sAll.ly.tr f5.ly) (fun r hr => by rw [f5.2.2.1 27 (by omega)]; exact p4 r hr) L5 Q5 (fun q vq hq y hy hy0 hyk => ?_)
        rcases hq with hq | hq
        · obtain ⟨i, hi, ei⟩ := C q vq hq y hy hy0 hyk
          obtain ⟨i', hi', ei'⟩ := k5 i hi
          exact ⟨i', hi', fun k hk => by rw [ei' k hk, ei k hk]⟩
        · obtain ⟨i', hi', ei'⟩ := n5
          have := uniq y hy (fun r hr => by rw [← hq r hr]; exact hy0 r hr)
          exact ⟨i', hi', fun k hk => by rw [ei' k hk, ex k hk, this k hk]⟩
      · rw [if_pos b0, if_pos I4.1.k]
        refine goOn h4 N E I4 sAll.ly p4 L4 Q (fun q vq hq y hy hy0 hyk => ?_)
        rcases hq with hq | hq
        · exact C q vq hq y hy hy0 hyk
        · exfalso
          have := uniq y hy (fun r hr => by rw [← hq r hr]; exact hy0 r hr)
          exact hnf (hy.1.congr this)
    · have sAll := s1.tr s2
      rw [e2, x_bI, if_pos rfl, if_pos I2.1.k]
      refine goOn h2 N E I2 sAll.ly (h27 sAll hp) (sAll.li L) Q (fun q vq hq y hy hy0 hyk => ?_)
      rcases hq with hq | hq
      · exact C q vq hq y hy hy0 hyk
      · exfalso
        refine O2 y (fun w hw => hyk w (fun r hr => ?_))
        rw [hq r hr]
        exact hw r hr
/-- the Model's list is the game's own -/
def mZ (h : AH) (s : QS) : Prop := am_I h 20 10 = nI (q_N s) ∧ (∀ i, i < q_N s → ∀ k, k < 6 → am_J h 25 (6 * i + k) = q_E s i k) ∧ (∀ i, i < q_N s → am_J h 26 i = f_sumE s i) ∧ z_list s.1 (q_g s) (q_N s, q_E s)
theorem mZ.of {s : QS} (x : mX h s.1 (q_g s)) : mZ h s := by
  obtain ⟨⟨N, E⟩, x1, x2, x3, x4⟩ := x
  obtain ⟨l1, l2, l3⟩ := q_ex_of x1
  dsimp only at x2 x3 x4
  refine ⟨by rw [← l2]; exact x2, fun i hi k hk => by rw [x3 i (by omega) k hk]; exact l3 i (by omega) k hk, fun i hi => ?_, l1⟩
  rw [x4 i (by omega)]
  exact j_sum_congr (fun k hk => l3 i (by omega) k hk)
theorem m_lay (I : mI h A) (X : mE h A.1) (w : q_wf A.1) : ∃ h1, am_ev 124 0 [.ref 20, am_ph, am_ph] [] h = some (none, h1) ∧ mI h1 A ∧ mfr h h1 ∧ mE h1 A.1 ∧ mZ h1 A.1 := by
  have h3 := I.c3
  have h6 := I.c6
  have h8 := q_nq_le h3
  have hg := w.rng
  have mm := I.1
  rw [am_b124_0, if_pos mm.k]
  rcases X with z | ⟨z, x⟩
  · rw [if_pos z, if_pos mm.k]
    have m1 : mL (am_sI h 20 11 1) := mm.sI
    try dsimp only
    rw [if_pos m1.k]
    generalize hM : am_sI (am_sI h 20 11 1) 20 10 0 = M
    have IM : mI M A := by
      rw [← hM]
      exact I.row rfl rfl rfl I.2.1 I.c3 rfl rfl rfl rfl (by rw [am_sI_I, am_ud_ne (by omega), am_sI_I, am_ud_ne (by omega)]) (by rw [am_sI_I, am_ud_ne (by omega), am_sI_I, am_ud_ne (by omega)])
    have fM : mfr h M := by rw [← hM]; exact (am_sI_fr (by omega)).tr (am_sI_fr (by omega))
    have e11 : am_I M 20 11 = nI 1 := by rw [← hM, am_sI_I, am_ud_ne (by omega), am_sI_I, am_ud_eq, x_c1]
    have e10 : am_I M 20 10 = nI 0 := by rw [← hM, am_sI_I, am_ud_eq, nI_0]
    have key : ∀ d j, j + d = 5 → ∀ M1 : AH, mPf M M1 → (∀ r, r < j → am_I M1 27 r = nI r) → ∃ M2, am_ev 124 20 [.ref 20, .int (nI j), am_ph] [] M1 = am_ev 124 40 [.ref 20, .int (1 : Int32), am_ph] [] M2 ∧ mPf M M2 ∧ ∀ r, r < 5 → am_I M2 27 r = nI r := by
      intro d
      induction d with
      | zero =>
        intro j hj M1 s hM1
        refine ⟨M1, ?_, s, fun r hr => hM1 r (by omega)⟩
        rw [am_b124_20, x_c5, if_neg (by rw [x_lt (by omega) (by omega)]; omega)]
      | succ d ih =>
        intro j hj M1 s hM1
        have mM : mL M1 := IM.1.of s.1 s.2.1
        obtain ⟨M2, e2, r2⟩ := ih (j + 1) (by omega) (am_sI M1 27 j (nI j)) ⟨s.1, s.2.1, fun b hb => by rw [am_sI_ne hb]; exact s.2.2.1 b hb, s.2.2.2⟩ (fun r hr => by
          rw [am_sI_I]
          by_cases y : r = j
          · rw [y, am_ud_eq]
          · rw [am_ud_ne y]; exact hM1 r (by omega))
        refine ⟨M2, ?_, r2⟩
        rw [am_b124_20, x_c5, if_pos (by rw [x_lt (by omega) (by omega)]; omega), if_pos mM.k, mM.r12, x_oe, x_cl (by omega), if_pos (x_wrc mM.k12 mM.l12 (by omega) (by omega)), nI_1]
        exact e2
    obtain ⟨M2, e2, s2, p2⟩ := key 5 0 (by omega) M ⟨rfl, rfl, fun _ _ => rfl, rfl⟩ (fun r hr => by omega)
    rw [nI_0] at e2
    have I2 := s2.I IM
    obtain ⟨m, hm⟩ : ∃ m, m + 1 = 2 * A.1.1 := ⟨2 * A.1.1 - 1, by omega⟩
    have v0 : vP m (2 * A.1.1 + q_nq A.1.1) (fun r => r) := ⟨fun r r' a _ => a, fun r hr => by show r < _; omega⟩
    obtain ⟨h1, N1, E1, e3, I3, l3, L3, Q3, C3⟩ := m_lay40 hg hm (16 ^ m) M2 (fun r => r) 0 (fun _ _ => 0) (by omega) I2 v0 (fun r hr => p2 r (by omega)) ⟨by rw [s2.2.2.1 20 (by omega)]; exact e10, fun i hi => by omega, fun i hi => by omega⟩ ⟨fun i hi => by omega, fun i j _ hj => by omega⟩ (fun q vq ⟨i, i1, i2, i3⟩ => by
      exfalso
      have := vq.gap i 0 (by omega)
      rw [Nat.zero_add] at this
      dsimp only at i3
      omega)
    have comp : ∀ v, z_ext (2 * A.1.1) (2 * A.1.1 + q_nq A.1.1) (z_row A.1.1 (q_g A.1)) v → ∃ i, i < N1 ∧ ∀ k, k < 2 * A.1.1 → (E1 i k).toInt = v k := fun v hv => by
      obtain ⟨S, a1, a2, a3⟩ := z_pick hv.2.1.1 hv.2.2
      exact C3 S ⟨fun r r' a b => a2 r r' a (by omega), fun r hr => (a1 r (by omega)).1⟩ trivial v hv (fun r hr => (a1 r (by omega)).2) (fun w hw => a3 w (fun r hr => hw r (by omega)))
    have hl : z_list A.1.1 (q_g A.1) (N1, E1) := by
      refine ⟨⟨?_, Q3.few h3⟩, Q3.1, comp, Q3.2⟩
      obtain ⟨v, hv⟩ := z_some h3 hg
      obtain ⟨i, hi, -⟩ := comp v hv
      show 0 < N1
      omega
    have x : mX h1 A.1.1 (q_g A.1) := ⟨(N1, E1), hl, L3.1, L3.2.1, L3.2.2⟩
    refine ⟨h1, e2.trans e3, I3, fM.tr (s2.fr.tr l3.1), Or.inr ⟨?_, x⟩, mZ.of x⟩
    rw [l3.2, s2.2.2.1 20 (by omega)]
    exact e11
  · rw [if_neg (by rw [z]; decide)]
    exact ⟨h, rfl, I, am_fr.rf, Or.inr ⟨z, x⟩, mZ.of x⟩
end lay2
