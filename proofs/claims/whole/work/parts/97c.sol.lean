/-! ===== the Model: the only solution, and whether it is obeyed ===== -/
theorem z_scale {s P t V : Nat} (hP : 0 < P) (hs : 0 < s) (hsV : s ∣ V) (h : P ∣ t * V) : 0 < Nat.gcd P (s * t) ∧ 0 < s * (P / Nat.gcd P (s * t)) ∧ s * (P / Nat.gcd P (s * t)) ∣ V ∧ P ∣ s * (P / Nat.gcd P (s * t)) * t := by
  have hG : 0 < Nat.gcd P (s * t) := Nat.gcd_pos_of_pos_left _ hP
  generalize hGe : Nat.gcd P (s * t) = G at hG
  have d1 : G ∣ P := by rw [← hGe]; exact Nat.gcd_dvd_left _ _
  have d2 : G ∣ s * t := by rw [← hGe]; exact Nat.gcd_dvd_right _ _
  have e1 : G * (P / G) = P := Nat.mul_div_cancel' d1
  have e2 : G * (s * t / G) = s * t := Nat.mul_div_cancel' d2
  have hPG : 0 < P / G := Nat.div_pos (Nat.le_of_dvd hP d1) hG
  refine ⟨hG, Nat.mul_pos hs hPG, ?_, ?_⟩
  · obtain ⟨q, hq⟩ := hsV
    have h2 : G * (P / G) ∣ G * (s * t / G * q) := by
      rw [e1, ← Nat.mul_assoc, e2]
      have : s * t * q = t * V := by rw [hq]; ac_rfl
      rw [this]; exact h
    have h3 := Nat.dvd_of_mul_dvd_mul_left hG h2
    have h4 : Nat.Coprime (P / G) (s * t / G) := by rw [← hGe]; exact Nat.coprime_div_gcd_div_gcd (by rw [hGe]; exact hG)
    have h5 := h4.dvd_of_dvd_mul_left h3
    rw [hq]
    exact Nat.mul_dvd_mul_left s h5
  · refine ⟨s * t / G, ?_⟩
    calc s * (P / G) * t = (P / G) * (s * t) := by ac_rfl
      _ = (P / G) * (G * (s * t / G)) := by rw [e2]
      _ = G * (P / G) * (s * t / G) := by ac_rfl
      _ = P * (s * t / G) := by rw [e1]
theorem x_dotn {n : Nat} {e : Nat → Int64} {l : Nat → Int32} (hn : n ≤ 6) (he : ∀ k, k < n → (e k).toInt.natAbs ≤ 136048896) (hl : ∀ k, k < n → (l k).toInt.natAbs ≤ 18) : (j_sum n (fun k => e k * (l k).toInt64)).toInt = z_dot n (fun k => (l k).toInt) (fun k => (e k).toInt) := by
  have hp : ∀ k, k < n → (e k * (l k).toInt64).toInt = (e k).toInt * (l k).toInt ∧ -2448880128 ≤ (e k).toInt * (l k).toInt ∧ (e k).toInt * (l k).toInt ≤ 2448880128 := fun k hk => by
    have := Nat.mul_le_mul (he k hk) (hl k hk)
    rw [← Int.natAbs_mul] at this
    refine ⟨?_, by omega, by omega⟩
    rw [y_mul (by rw [x_l]; omega) (by rw [x_l]; omega), x_l]
  obtain ⟨j1, j2, j3⟩ := j_sum_int (B := 2448880128) (f := fun k => e k * (l k).toInt64) (by omega) n (by omega) (fun k hk => by rw [(hp k hk).1]; exact (hp k hk).2)
  rw [j1]
  exact z_sum_congr (fun k hk => (hp k hk).1)
section sol
variable {h : AH} {A : QA}
theorem m_sol {m f : Nat} {R0 : Nat → Nat → Int} (I : mI h A) (hm : m + 1 = 2 * A.1.1) (hO : mOne h m (2 * A.1.1) f R0) (hW : ∀ v, z_prim (2 * A.1.1) v → (∀ w, (∀ i, i < m → z_dot (2 * A.1.1) (R0 i) w = 0) → ∃ a b : Int, a ≠ 0 ∧ ∀ k, k < 2 * A.1.1 → a * w k = b * v k) → ∀ k, k < 2 * A.1.1 → (v k).natAbs ≤ 136048896) : ∃ h1 v, am_ev 119 0 [.ref 20, .int (nI f), am_ph, am_ph, am_ph, am_ph, am_ph, am_ph, am_ph, am_ph] [] h = some (none, h1) ∧ mSc h h1 ∧ (∀ k, k < 2 * A.1.1 → (am_J h1 30 k).toInt = v k) ∧ z_prim (2 * A.1.1) v ∧ (∀ i, i < m → z_dot (2 * A.1.1) (R0 i) v = 0) ∧ (∀ w, (∀ i, i < m → z_dot (2 * A.1.1) (R0 i) w = 0) → ∃ a b : Int, a ≠ 0 ∧ ∀ k, k < 2 * A.1.1 → a * w k = b * v k) ∧ (∀ k, k < 2 * A.1.1 → (v k).natAbs ≤ 136048896) ∧ f < 2 * A.1.1 ∧ 0 < v f := by
  have h3 := I.c3
  have h6 := I.c6
  have hm5 : m ≤ 5 := by omega
  have mm := I.1
  have hc := I.c
  obtain ⟨piv, T, R, g, S, hp, hcl, heq, hf, hnf, hall⟩ := hO
  obtain ⟨hdot, v, v1, v2, v3, v4⟩ := g.one hf hnf hall
  have bn := g.bnd hm5 hcl
  have pd := g.1
  have pne := g.2.1
  have pnz := g.2.2.1
  have hWv := hW v v1 (fun w hw => v4 w ((heq w).2 hw))
  have hTv : ∀ i, i < m → z_dot (2 * A.1.1) (T i) v = 0 := (g.2.2.2.2.2.2.2.1 v).2 v3
  generalize hV : (v f).natAbs = V
  have eV : v f = V := by omega
  have bV : V ≤ 136048896 := by rw [← hV]; exact hWv f hf
  have hPV : ∀ i, i < m → (T i (piv i)).natAbs ∣ (T i f).natAbs * V := fun i hi => by
    have h1 := hTv i hi
    rw [hdot i hi, eV] at h1
    have h2 : T i (piv i) * -(v (piv i)) = T i f * V := by rw [Int.mul_neg, Int.mul_comm (T i (piv i)), Int.mul_comm (T i f)]; omega
    refine ⟨(v (piv i)).natAbs, ?_⟩
    have h4 := congrArg Int.natAbs h2
    rw [Int.natAbs_mul, Int.natAbs_mul, Int.natAbs_neg, Int.natAbs_natCast] at h4
    exact h4.symm
  -- the scale
  have key1 : ∀ d r, r + d = m → ∀ (l : Int64) (s : Nat), l.toInt = s → 0 < s → s ∣ V → (∀ i, i < r → (T i (piv i)).natAbs ∣ s * (T i f).natAbs) → ∃ (l' : Int64) (s' : Nat), l'.toInt = s' ∧ 0 < s' ∧ s' ∣ V ∧ (∀ i, i < m → (T i (piv i)).natAbs ∣ s' * (T i f).natAbs) ∧ am_ev 119 10 [.ref 20, .int (nI f), .int (nI (2 * A.1.1)), .long l, am_ph, .int (nI r), am_ph, am_ph, am_ph, am_ph] [] h = am_ev 119 79 [.ref 20, .int (nI f), .int (nI (2 * A.1.1)), .long l', am_ph, .int (0 : Int32), am_ph, am_ph, am_ph, am_ph] [] h := by
    intro d
    induction d with
    | zero =>
      intro r hr l s hl hs hsV hd
      obtain rfl : r = m := by omega
      refine ⟨l, s, hl, hs, hsV, hd, ?_⟩
      rw [am_b119_10, x_c1, x_sub (by omega), if_neg (by rw [x_lt (by omega) (by omega)]; omega)]
    | succ d ih =>
      intro r hr l s hl hs hsV hd
      have hrm : r < m := by omega
      have ep := S r hrm (piv r) (pd r hrm)
      have et := S r hrm f hf
      have bp := bn r hrm (piv r) (pd r hrm)
      have bt := bn r hrm f hf
      have pz := pnz r hrm
      have hsle : s ≤ V := Nat.le_of_dvd (by omega) hsV
      obtain ⟨z1, z2, z3, z4⟩ := z_scale (P := (T r (piv r)).natAbs) (t := (T r f).natAbs) (by omega) hs hsV (hPV r hrm)
      have hst : s * (T r f).natAbs ≤ 136048896 * 503284375 := Nat.mul_le_mul (by omega) bt
      have est : (l * am_J h 28 (6 * r + f)).toInt = s * T r f ∧ ((s : Int) * T r f).natAbs = s * (T r f).natAbs := by
        have h9 : ((s : Int) * T r f).natAbs = s * (T r f).natAbs := by rw [Int.natAbs_mul, Int.natAbs_natCast]
        refine ⟨?_, h9⟩
        rw [y_mul (by rw [hl, et]; omega) (by rw [hl, et]; omega), hl, et]
      have hpl := pd r hrm
      have stepS : ∀ s0 : Int64, s0.toInt = (T r (piv r)).natAbs → ∃ (l' : Int64) (s' : Nat), l'.toInt = s' ∧ 0 < s' ∧ s' ∣ V ∧ (∀ i, i < m → (T i (piv i)).natAbs ∣ s' * (T i f).natAbs) ∧ am_ev 119 48 [.ref 20, .int (nI f), .int (nI (2 * A.1.1)), .long l, am_ph, .int (nI r), am_ph, am_ph, am_ph, am_ph] [.long s0] h = am_ev 119 79 [.ref 20, .int (nI f), .int (nI (2 * A.1.1)), .long l', am_ph, .int (0 : Int32), am_ph, am_ph, am_ph, am_ph] [] h := by
        intro s0 hs0
        obtain ⟨gg, e1, e2⟩ := m_gcd (h := h) (a := s0) (b := l * am_J h 28 (6 * r + f)) (by omega) (by rw [est.1]; omega)
        rw [hs0, est.1, est.2, Int.natAbs_natCast] at e2
        have hgne : ¬ gg = 0 := fun z => by
          rw [z] at e2
          have : (0 : Int) = _ := e2
          omega
        have hdivle : (T r (piv r)).natAbs / Nat.gcd (T r (piv r)).natAbs (s * (T r f).natAbs) ≤ 503284375 := Nat.le_trans (Nat.div_le_self _ _) bp
        have hq : (s0 / gg).toInt = (((T r (piv r)).natAbs / Nat.gcd (T r (piv r)).natAbs (s * (T r f).natAbs) : Nat) : Int) := by
          rw [y_div (by rw [e2]; omega), hs0, e2]
          rfl
        have hmul : s * ((T r (piv r)).natAbs / Nat.gcd (T r (piv r)).natAbs (s * (T r f).natAbs)) ≤ 136048896 * 503284375 := Nat.mul_le_mul (by omega) hdivle
        have hl' : (l * (s0 / gg)).toInt = ((s * ((T r (piv r)).natAbs / Nat.gcd (T r (piv r)).natAbs (s * (T r f).natAbs)) : Nat) : Int) := by
          have hcast : (s : Int) * (((T r (piv r)).natAbs / Nat.gcd (T r (piv r)).natAbs (s * (T r f).natAbs) : Nat) : Int) = ((s * ((T r (piv r)).natAbs / Nat.gcd (T r (piv r)).natAbs (s * (T r f).natAbs)) : Nat) : Int) := (Int.natCast_mul _ _).symm
          rw [y_mul (by rw [hl, hq, hcast]; omega) (by rw [hl, hq, hcast]; omega), hl, hq, hcast]
        obtain ⟨l', s', r1, r2, r3, r4, r5⟩ := ih (r + 1) (by omega) (l * (s0 / gg)) _ hl' z2 z3 (fun i hi => by
          by_cases ei : i = r
          · rw [ei]; exact z4
          · have := hd i (by omega)
            exact Nat.dvd_trans this ⟨(T r (piv r)).natAbs / Nat.gcd (T r (piv r)).natAbs (s * (T r f).natAbs), by ac_rfl⟩)
        refine ⟨l', s', r1, r2, r3, r4, ?_⟩
        rw [am_b119_48, if_pos mm.k, m_get mm (by omega) (by omega), x_bJ, e1, x_bJ, if_neg hgne, nI_1]
        exact r5
      have e10 : ∀ s0 : Int64, (if am_J h 28 (6 * r + piv r) < 0 then -am_J h 28 (6 * r + piv r) else am_J h 28 (6 * r + piv r)) = s0 → s0.toInt = (T r (piv r)).natAbs ∧ am_ev 119 10 [.ref 20, .int (nI f), .int (nI (2 * A.1.1)), .long l, am_ph, .int (nI r), am_ph, am_ph, am_ph, am_ph] [] h = am_ev 119 48 [.ref 20, .int (nI f), .int (nI (2 * A.1.1)), .long l, am_ph, .int (nI r), am_ph, am_ph, am_ph, am_ph] [.long s0] h := by
        intro s0 hs0
        have elt : (am_J h 28 (6 * r + piv r) < 0) = (T r (piv r) < 0) := by rw [y_lt, ep]; rfl
        have e0 : am_ev 119 10 [.ref 20, .int (nI f), .int (nI (2 * A.1.1)), .long l, am_ph, .int (nI r), am_ph, am_ph, am_ph, am_ph] [] h = if am_J h 28 (6 * r + piv r) < 0 then am_ev 119 48 [.ref 20, .int (nI f), .int (nI (2 * A.1.1)), .long l, am_ph, .int (nI r), am_ph, am_ph, am_ph, am_ph] [.long (-am_J h 28 (6 * r + piv r))] h else am_ev 119 48 [.ref 20, .int (nI f), .int (nI (2 * A.1.1)), .long l, am_ph, .int (nI r), am_ph, am_ph, am_ph, am_ph] [.long (am_J h 28 (6 * r + piv r))] h := by
          rw [am_b119_10, x_c1, x_sub (by omega), if_pos (by rw [x_lt (by omega) (by omega)]; omega), if_pos mm.k, mm.r14, x_oe, x_cl (by omega), if_pos (x_rdc mm.k14 mm.l14 (by omega) (by omega)), if_pos mm.k, hp r hrm, m_get mm (by omega) (by omega), x_bJ]
          simp only [lg_cmp_lt]
        by_cases hneg : am_J h 28 (6 * r + piv r) < 0
        · rw [if_pos hneg] at hs0 e0
          rw [elt] at hneg
          rw [hs0] at e0
          refine ⟨?_, e0⟩
          rw [← hs0, y_neg (by rw [ep]; omega), ep]
          omega
        · rw [if_neg hneg] at hs0 e0
          rw [elt] at hneg
          rw [hs0] at e0
          refine ⟨?_, e0⟩
          rw [← hs0, ep]
          omega
      obtain ⟨p1, p2⟩ := e10 _ rfl
      obtain ⟨l', s', r1, r2, r3, r4, r5⟩ := stepS _ p1
      exact ⟨l', s', r1, r2, r3, r4, p2.trans r5⟩
  obtain ⟨l, s, hl, hs, hsV, hds, e1⟩ := key1 m 0 (by omega) (1 : Int64) 1 rfl (by omega) ⟨V, by omega⟩ (fun i hi => by omega)
  rw [nI_0] at e1
  have hsle : s ≤ V := Nat.le_of_dvd (by omega) hsV
  -- what was found, before it is shortened
  have hq : ∀ i, i < m → ∃ q : Int, T i (piv i) * q = -(s * T i f) ∧ q.natAbs ≤ 136048896 * 503284375 := fun i hi => by
    have h1 := hds i hi
    have h2 : T i (piv i) ∣ -(s * T i f) := by
      rw [Int.dvd_neg, ← Int.natAbs_dvd, Int.ofNat_dvd_left, Int.natAbs_mul, Int.natAbs_natCast]
      exact h1
    obtain ⟨q, hq⟩ := h2
    refine ⟨q, hq.symm, ?_⟩
    have h4 := congrArg Int.natAbs hq
    rw [Int.natAbs_neg, Int.natAbs_mul, Int.natAbs_mul, Int.natAbs_natCast] at h4
    have h5 : s * (T i f).natAbs ≤ 136048896 * 503284375 := Nat.mul_le_mul (by omega) (bn i hi f hf)
    have h7 := pnz i hi
    have h8 : 1 * q.natAbs ≤ (T i (piv i)).natAbs * q.natAbs := Nat.mul_le_mul_right _ (by omega)
    omega
  have key2 : ∀ d r, r + d = m → ∀ M : AH, mSc h M → am_J M 28 = am_J h 28 → am_I M 29 = am_I h 29 → (∀ i, i < r → T i (piv i) * (am_J M 30 (piv i)).toInt = -(s * T i f)) → ∃ M1, am_ev 119 79 [.ref 20, .int (nI f), .int (nI (2 * A.1.1)), .long l, am_ph, .int (nI r), am_ph, am_ph, am_ph, am_ph] [] M = am_ev 119 142 [.ref 20, am_ph, .int (nI (2 * A.1.1)), am_ph, am_ph, .long (0 : Int64), am_ph, .int (0 : Int32), am_ph, am_ph] [] M1 ∧ mSc h M1 ∧ (∀ i, i < m → T i (piv i) * (am_J M1 30 (piv i)).toInt = -(s * T i f)) ∧ (am_J M1 30 f).toInt = s := by
    intro d
    induction d with
    | zero =>
      intro r hr M sM eJ eI hM
      obtain rfl : r = m := by omega
      have mM := sM.L mm
      refine ⟨am_sJ M 30 f l, ?_, sM.tr (mSc.sJ (Or.inr rfl)), fun i hi => ?_, ?_⟩
      · rw [am_b119_79, x_c1, x_sub (by omega), if_neg (by rw [x_lt (by omega) (by omega)]; omega), if_pos mM.k, mM.r15, x_oe, x_cl (by omega), if_pos ⟨mM.k15, fun z => z.elim (nI_pos (by omega)) (by rw [mM.l15]; omega)⟩]
      · rw [am_sJ_J, am_ud_ne (hnf i hi)]
        exact hM i hi
      · rw [am_sJ_J, am_ud_eq]
        exact hl
    | succ d ih =>
      intro r hr M sM eJ eI hM
      have hrm : r < m := by omega
      have mM := sM.L mm
      have hpl := pd r hrm
      have ep := S r hrm (piv r) hpl
      have et := S r hrm f hf
      have pz := pnz r hrm
      obtain ⟨q, hq1, hq2⟩ := hq r hrm
      have bt := bn r hrm f hf
      have hst : s * (T r f).natAbs ≤ 136048896 * 503284375 := Nat.mul_le_mul (by omega) bt
      have h9 : ((s : Int) * T r f).natAbs = s * (T r f).natAbs := by rw [Int.natAbs_mul, Int.natAbs_natCast]
      have hp29 : am_I M 29 r = nI (piv r) := by rw [eI]; exact hp r hrm
      have hneg : (-l).toInt = -(s : Int) := by rw [y_neg (by omega), hl]
      have hmul : (-l * am_J h 28 (6 * r + f)).toInt = -(s * T r f) := by
        rw [y_mul (by rw [hneg, et, Int.neg_mul]; omega) (by rw [hneg, et, Int.neg_mul]; omega), hneg, et, Int.neg_mul]
      have hval : (-l * am_J h 28 (6 * r + f) / am_J h 28 (6 * r + piv r)).toInt = q := y_divx (by rw [ep]; exact pz) (by rw [hmul, ep]; exact hq1.symm) (by omega) (by omega)
      have hne : ¬ am_J h 28 (6 * r + piv r) = 0 := fun z => by rw [z] at ep; exact pz ep.symm
      obtain ⟨M1, e3, r1⟩ := ih (r + 1) (by omega) (am_sJ M 30 (piv r) (-l * am_J h 28 (6 * r + f) / am_J h 28 (6 * r + piv r))) (sM.tr (mSc.sJ (Or.inr rfl))) (by rw [am_sJ_ne (by omega)]; exact eJ) eI (fun i hi => by
        rw [am_sJ_J]
        by_cases ei : i = r
        · rw [ei, am_ud_eq, hval]; exact hq1
        · rw [am_ud_ne (pne i r (by omega) hrm)]
          exact hM i (by omega))
      refine ⟨M1, ?_, r1⟩
      rw [am_b119_79, x_c1, x_sub (by omega), if_pos (by rw [x_lt (by omega) (by omega)]; omega), if_pos mM.k, mM.r15, x_oe, if_pos mM.k, mM.r14, x_oe, x_cl (by omega), if_pos (x_rdc mM.k14 mM.l14 (by omega) (by omega)), if_pos mM.k, m_get mM (by omega) (by omega), x_bJ, if_pos mM.k, mM.r14, x_oe, if_pos (x_rdc mM.k14 mM.l14 (by omega) (by omega)), if_pos mM.k, hp29, m_get mM (by omega) (by omega), x_bJ, eJ, if_neg hne, x_cl (by omega), if_pos ⟨mM.k15, fun z => z.elim (nI_pos (by omega)) (by rw [mM.l15]; omega)⟩, nI_add]
      exact e3
  obtain ⟨M1, e2, s1, u1, u2⟩ := key2 m 0 (by omega) h mSc.rf rfl rfl (fun i hi => by omega)
  rw [nI_0] at e2
  generalize hu : (fun k => (am_J M1 30 k).toInt) = u
  have eu : ∀ k, (am_J M1 30 k).toInt = u k := fun k => by rw [← hu]
  have bu : ∀ k, k < 2 * A.1.1 → (u k).natAbs ≤ 136048896 * 503284375 := fun k hk => by
    rcases hall k hk with z | ⟨i, hi, z⟩
    · rw [z, ← eu, u2]; omega
    · obtain ⟨q, hq1, hq2⟩ := hq i hi
      have h1 := u1 i hi
      rw [eu] at h1
      have : u (piv i) = q := Int.eq_of_mul_eq_mul_left (pnz i hi) (h1.trans hq1.symm)
      rw [z, this]; exact hq2
  have m1 := s1.L mm
  have c1 := s1.c hc
  have key3 : ∀ d k, k + d = 2 * A.1.1 → ∀ gg : Int64, gg.toInt = z_gcd k u → ∃ g' : Int64, g'.toInt = z_gcd (2 * A.1.1) u ∧ am_ev 119 142 [.ref 20, am_ph, .int (nI (2 * A.1.1)), am_ph, am_ph, .long gg, am_ph, .int (nI k), am_ph, am_ph] [] M1 = am_ev 119 171 [.ref 20, am_ph, .int (nI (2 * A.1.1)), am_ph, am_ph, .long g', am_ph, .int (0 : Int32), am_ph, am_ph] [] M1 := by
    intro d
    induction d with
    | zero =>
      intro k hk gg hg
      obtain rfl : k = 2 * A.1.1 := by omega
      refine ⟨gg, hg, ?_⟩
      rw [am_b119_142, if_neg (by rw [x_lt (by omega) (by omega)]; omega)]
    | succ d ih =>
      intro k hk gg hg
      have b1 := bu k (by omega)
      obtain ⟨g1, e3, e4⟩ := m_gcd (h := M1) (a := gg) (b := am_J M1 30 k) (by omega) (by rw [eu]; omega)
      obtain ⟨g', e5, e6⟩ := ih (k + 1) (by omega) g1 (by
        rw [e4, hg, eu, z_gcd_s]
        rfl)
      refine ⟨g', e5, ?_⟩
      rw [am_b119_142, if_pos (by rw [x_lt (by omega) (by omega)]; omega), if_pos m1.k, m1.r15, x_oe, x_cl (by omega), if_pos ⟨m1.k15, fun z => z.elim (nI_pos (by omega)) (by rw [m1.l15]; omega)⟩, e3, x_bJ, nI_1]
      exact e6
  obtain ⟨gg, hg, e3⟩ := key3 (2 * A.1.1) 0 (by omega) (0 : Int64) rfl
  rw [nI_0] at e3
  have uf : u f ≠ 0 := by rw [← eu, u2]; omega
  have hG : 0 < z_gcd (2 * A.1.1) u := by
    rcases Nat.eq_zero_or_pos (z_gcd (2 * A.1.1) u) with z | z
    · exact absurd (z_gcd_0 z f hf) uf
    · exact z
  generalize hGe : z_gcd (2 * A.1.1) u = G at hg hG
  have hdv : ∀ k, k < 2 * A.1.1 → (G : Int) * (u k / G) = u k := fun k hk => by
    have := z_gcd_dvd (v := u) (2 * A.1.1) k hk
    rw [hGe] at this
    exact Int.mul_ediv_cancel' this
  have hgne : ¬ gg = 0 := fun z => by
    rw [z] at hg
    have : (0 : Int) = G := hg
    omega
  let F : Nat → Int64 := fun k => am_J M1 30 k / gg
  have hFv : ∀ k, k < 2 * A.1.1 → (F k).toInt = u k / G := fun k hk => by
    have h5 := hdv k hk
    have b1 := bu k hk
    have h6' : (u k / G).natAbs ≤ 136048896 * 503284375 := by
      have h7 := congrArg Int.natAbs h5
      rw [Int.natAbs_mul, Int.natAbs_natCast] at h7
      have h8 : 1 * (u k / G).natAbs ≤ G * (u k / G).natAbs := Nat.mul_le_mul_right _ hG
      omega
    exact y_divx (by omega) (by rw [eu, hg]; exact h5.symm) (by omega) (by omega)
  have key4 : ∀ d k, k + d = 2 * A.1.1 → am_ev 119 171 [.ref 20, am_ph, .int (nI (2 * A.1.1)), am_ph, am_ph, .long gg, am_ph, .int (nI k), am_ph, am_ph] [] (am_fj M1 30 0 k F) = some (none, am_fj M1 30 0 (2 * A.1.1) F) := by
    intro d
    induction d with
    | zero =>
      intro k hk
      obtain rfl : k = 2 * A.1.1 := by omega
      rw [am_b119_171, if_neg (by rw [x_lt (by omega) (by omega)]; omega)]
    | succ d ih =>
      intro k hk
      have m2 : mL (am_fj M1 30 0 k F) := m1.rJ
      have i' := ih (k + 1) (by omega)
      have es := am_fj_s M1 30 0 k F
      rw [Nat.zero_add] at es
      rw [← es] at i'
      have e0 : am_J (am_fj M1 30 0 k F) 30 k = am_J M1 30 k := by rw [am_fj_J]; dsimp only; rw [if_neg (by omega)]
      rw [am_b119_171, if_pos (by rw [x_lt (by omega) (by omega)]; omega), if_pos m2.k, m2.r15, x_oe, x_cl (by omega), if_pos ⟨m2.k15, fun z => z.elim (nI_pos (by omega)) (by rw [m2.l15]; omega)⟩, if_neg hgne, if_pos ⟨m2.k15, fun z => z.elim (nI_pos (by omega)) (by rw [m2.l15]; omega)⟩, e0, nI_1]
      exact i'
  have e4 := key4 (2 * A.1.1) 0 (by omega)
  rw [am_fj_0, nI_0] at e4
  have hTu : ∀ i, i < m → z_dot (2 * A.1.1) (T i) u = 0 := fun i hi => by
    have h1 := u1 i hi
    have h2 : u f = s := by rw [← eu]; exact u2
    rw [eu, Int.mul_comm] at h1
    rw [hdot i hi, h2, h1]
    omega
  have hprim : z_prim (2 * A.1.1) (fun k => u k / G) := by
    apply z_prim_of
    have e5 := z_gcd_congr (v := u) (w := fun k => (G : Int) * (u k / G)) (2 * A.1.1) (fun k hk => (hdv k hk).symm)
    rw [z_gcd_mul, hGe, Int.natAbs_natCast] at e5
    have e6 : G * 1 = G * z_gcd (2 * A.1.1) (fun k => u k / G) := by rw [Nat.mul_one]; exact e5
    exact (Nat.eq_of_mul_eq_mul_left hG e6).symm
  have hTw : ∀ i, i < m → z_dot (2 * A.1.1) (T i) (fun k => u k / G) = 0 := fun i hi => by
    have h1 := hTu i hi
    rw [z_dot_congr (fun k hk => (hdv k hk).symm), z_dot_mul] at h1
    exact (Int.mul_eq_zero.1 h1).resolve_left (by omega)
  have hR0 : ∀ i, i < m → z_dot (2 * A.1.1) (R0 i) (fun k => u k / G) = 0 := (heq _).1 ((g.2.2.2.2.2.2.2.1 _).1 hTw)
  have hker : ∀ w, (∀ i, i < m → z_dot (2 * A.1.1) (R0 i) w = 0) → ∃ a b : Int, a ≠ 0 ∧ ∀ k, k < 2 * A.1.1 → a * w k = b * (u k / G) := fun w hw => by
    obtain ⟨a1, b1, n1, q1⟩ := v4 w ((heq w).2 hw)
    obtain ⟨a2, b2, n2, q2⟩ := v4 (fun k => u k / G) ((heq _).2 hR0)
    have nb2 : b2 ≠ 0 := fun z => by
      obtain ⟨k, hk, hn⟩ := hprim.1
      have := q2 k hk
      rw [z, Int.zero_mul] at this
      exact Int.mul_ne_zero n2 hn this
    refine ⟨a1 * b2, b1 * a2, Int.mul_ne_zero n1 nb2, fun k hk => ?_⟩
    have t1 : a1 * b2 * w k = b2 * (a1 * w k) := by ac_rfl
    have t2 : b1 * a2 * (u k / G) = b1 * (a2 * (u k / G)) := by ac_rfl
    rw [t1, t2, q1 k hk, q2 k hk]
    ac_rfl
  refine ⟨am_fj M1 30 0 (2 * A.1.1) F, fun k => u k / G, ?_, s1.tr (mSc.rJ (Or.inr rfl)), fun k hk => ?_, hprim, hR0, hker, hW _ hprim hker, hf, ?_⟩
  · rw [am_b119_0, if_pos mm.k, m_cells mm hc, x_bI]
    exact e1.trans (e2.trans (e3.trans e4))
  · rw [am_fj_J]
    dsimp only
    rw [if_pos (by omega), Nat.sub_zero]
    exact hFv k hk
  · have h1 := hdv f hf
    have h2 : u f = s := by rw [← eu]; exact u2
    dsimp only
    refine Classical.byContradiction (fun z => ?_)
    have h5 : 0 ≤ (G : Int) * -(u f / G) := Int.mul_nonneg (by omega) (by omega)
    rw [Int.mul_neg] at h5
    omega
end sol
