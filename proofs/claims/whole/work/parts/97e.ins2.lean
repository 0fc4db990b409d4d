/-! ===== the Model: a vector put in its place ===== -/
section ins2
variable {h : AH} {A : QA}
/-- the list and its length alone -/
def mLf (h h1 : AH) : Prop := h1.1 = h.1 ∧ am_R h1 = am_R h ∧ (∀ b, b ≠ 20 → am_I h1 b = am_I h b) ∧ (∀ k, k ≠ 10 → am_I h1 20 k = am_I h 20 k) ∧ ∀ b, b ≠ 25 → b ≠ 26 → am_J h1 b = am_J h b
theorem mLf.rf {h : AH} : mLf h h := ⟨rfl, rfl, fun _ _ => rfl, fun _ _ => rfl, fun _ _ _ => rfl⟩
theorem mLf.I {h h1 : AH} {A : QA} (s : mLf h h1) (I : mI h A) : mI h1 A := I.row s.1 s.2.1 (s.2.2.1 21 (by omega)) I.2.1 I.c3 (s.2.2.1 22 (by omega)) (s.2.2.1 23 (by omega)) (s.2.2.1 24 (by omega)) (s.2.2.1 31 (by omega)) (s.2.2.2.1 2 (by omega)) (s.2.2.2.1 17 (by omega))
theorem mLf.fr {h h1 : AH} (s : mLf h h1) : mfr h h1 := ⟨s.1, s.2.1, fun b hb => s.2.2.1 b (by omega), fun b hb => s.2.2.2.2 b (by omega) (by omega)⟩
theorem m_insert {N : Nat} {E : Nat → Nat → Int64} {e : Nat → Int64} (I : mI h A) (hg : z_rng (q_g A.1)) (L : mLi h N E) (Q : zQ A.1.1 (q_g A.1) N E) (hx : z_ext (2 * A.1.1) (2 * A.1.1 + q_nq A.1.1) (z_row A.1.1 (q_g A.1)) (fun k => (e k).toInt)) (h0 : ∀ k, 2 * A.1.1 ≤ k → e k = 0) (he : ∀ k, k < 2 * A.1.1 → am_J h 30 k = e k) : ∃ h1 N1 E1, am_ev 122 0 [.ref 20, am_ph, am_ph, am_ph, am_ph, am_ph] [] h = some (none, h1) ∧ mLf h h1 ∧ mLi h1 N1 E1 ∧ zQ A.1.1 (q_g A.1) N1 E1 ∧ (∀ i, i < N → ∃ i', i' < N1 ∧ ∀ k, k < 2 * A.1.1 → (E1 i' k).toInt = (E i k).toInt) ∧ ∃ i', i' < N1 ∧ ∀ k, k < 2 * A.1.1 → (E1 i' k).toInt = (e k).toInt := by
  have h3 := I.c3
  have h6 := I.c6
  have mm := I.1
  have hN := Q.few h3
  have sv := zE.sum h3 hg hx h0
  have su : ∀ i, i < N → 0 < z_sum (2 * A.1.1) (fun k => (E i k).toInt) := fun i hi => (Q.1 i hi).1.sum z_row_unit
  have se : 0 < z_sum (2 * A.1.1) (fun k => (e k).toInt) := hx.sum z_row_unit
  -- the sum
  have key1 : ∀ d k, k + d = 2 * A.1.1 → am_ev 122 4 [.ref 20, .long (j_sum k e), am_ph, .int (nI k), am_ph, am_ph] [] h = am_ev 122 29 [.ref 20, .long (j_sum 6 e), am_ph, .int (0 : Int32), am_ph, am_ph] [] h := by
    intro d
    induction d with
    | zero =>
      intro k hk
      obtain rfl : k = 2 * A.1.1 := by omega
      rw [am_b122_4, if_pos mm.k, m_cells mm I.c, x_bI, if_neg (by rw [x_lt (by omega) (by omega)]; omega), sv.2.1]
    | succ d ih =>
      intro k hk
      have i' := ih (k + 1) (by omega)
      rw [j_sum_s, ← he k (by omega)] at i'
      rw [am_b122_4, if_pos mm.k, m_cells mm I.c, x_bI, if_pos (by rw [x_lt (by omega) (by omega)]; omega), if_pos mm.k, mm.r15, x_oe, x_cl (by omega), if_pos ⟨mm.k15, fun z => z.elim (nI_pos (by omega)) (by rw [mm.l15]; omega)⟩, nI_1]
      exact i'
  have e1 := key1 (2 * A.1.1) 0 (by omega)
  rw [nI_0] at e1
  -- its place
  have key2 : ∀ d p, p + d = N → (∀ i, i < p → z_bef (2 * A.1.1) (fun k => (E i k).toInt) (fun k => (e k).toInt)) → ∃ p', p' ≤ N ∧ (∀ i, i < p' → z_bef (2 * A.1.1) (fun k => (E i k).toInt) (fun k => (e k).toInt)) ∧ (p' < N → ¬ z_bef (2 * A.1.1) (fun k => (E p' k).toInt) (fun k => (e k).toInt)) ∧ am_ev 122 29 [.ref 20, .long (j_sum 6 e), am_ph, .int (nI p), am_ph, am_ph] [] h = am_ev 122 54 [.ref 20, .long (j_sum 6 e), am_ph, .int (nI p'), am_ph, am_ph] [] h := by
    intro d
    induction d with
    | zero =>
      intro p hp hb
      refine ⟨p, by omega, hb, fun z => by omega, ?_⟩
      rw [am_b122_29, if_pos mm.k, L.1, if_neg (by rw [x_lt (by omega) (by omega)]; omega)]
    | succ d ih =>
      intro p hp hb
      obtain ⟨r, er, hr⟩ := m_ahead I hg L Q (show p < N by omega) hx h0 he
      rw [am_b122_29, if_pos mm.k, L.1, if_pos (by rw [x_lt (by omega) (by omega)]; omega), if_pos mm.k, er, x_bJ]
      simp only [lg_cmp_lt]
      rcases hr with ⟨r1, r2⟩ | ⟨r1, r2⟩ | ⟨r1, r2, r3⟩
      · rw [if_pos r1, nI_1]
        exact ih (p + 1) (by omega) (fun i hi => by
          by_cases ei : i = p
          · rw [ei]; exact r2
          · exact hb i (by omega))
      · rw [if_neg (by rw [r1]; decide)]
        exact ⟨p, by omega, hb, fun _ z => z.irr r2, rfl⟩
      · rw [if_neg r1]
        exact ⟨p, by omega, hb, fun _ z => z.asym r3, rfl⟩
  obtain ⟨p, hp, hb, hnb, e2⟩ := key2 N 0 (by omega) (fun i hi => by omega)
  rw [nI_0] at e2
  rw [am_b122_0]
  -- a new one
  have hnew : (∀ i, p ≤ i → i < N → z_bef (2 * A.1.1) (fun k => (e k).toInt) (fun k => (E i k).toInt)) → ∃ h1 N1 E1, (if am_I h 20 10 = (128 : Int32) then some (none, h) else am_ev 122 90 [.ref 20, .long (j_sum 6 e), am_ph, .int (nI p), .int (am_I h 20 10), am_ph] [] h) = some (none, h1) ∧ mLf h h1 ∧ mLi h1 N1 E1 ∧ zQ A.1.1 (q_g A.1) N1 E1 ∧ (∀ i, i < N → ∃ i', i' < N1 ∧ ∀ k, k < 2 * A.1.1 → (E1 i' k).toInt = (E i k).toInt) ∧ ∃ i', i' < N1 ∧ ∀ k, k < 2 * A.1.1 → (E1 i' k).toInt = (e k).toInt := by
    intro haf
    let E1 : Nat → Nat → Int64 := fun i => if i < p then E i else if i = p then e else E (i - 1)
    have Elo : ∀ i, i < p → E1 i = E i := fun i hi => if_pos hi
    have Ep : E1 p = e := by show (if p < p then _ else if p = p then e else _) = e; rw [if_neg (by omega), if_pos rfl]
    have Ehi : ∀ i, p < i → E1 i = E (i - 1) := fun i hi => by show (if i < p then _ else if i = p then e else _) = _; rw [if_neg (by omega), if_neg (by omega)]
    have Q1 : zQ A.1.1 (q_g A.1) (N + 1) E1 := by
      refine ⟨fun i hi => ?_, fun i j hij hj => ?_⟩
      · rcases (show i < p ∨ i = p ∨ p < i by omega) with y | y | y
        · rw [Elo i y]; exact Q.1 i (by omega)
        · rw [y, Ep]; exact ⟨hx, h0⟩
        · rw [Ehi i y]; exact Q.1 (i - 1) (by omega)
      · unfold zB
        rcases (show i < p ∨ i = p ∨ p < i by omega) with y | y | y
        · rw [Elo i y]
          rcases (show j < p ∨ j = p ∨ p < j by omega) with w | w | w
          · rw [Elo j w]; exact Q.2 i j hij (by omega)
          · rw [w, Ep]; exact hb i y
          · rw [Ehi j w]
            exact Q.2 i (j - 1) (by omega) (by omega)
        · rw [y, Ep, Ehi j (by omega)]
          exact haf (j - 1) (by omega) (by omega)
        · rw [Ehi i y, Ehi j (by omega)]
          exact Q.2 (i - 1) (j - 1) (by omega) (by omega)
    have hN1 := Q1.few h3
    rw [L.1, if_neg (by rw [show (128 : Int32) = nI 128 from rfl]; intro z; have := (nI_eq (by omega) (by omega)).1 z; omega)]
    -- the others move
    let SH : Nat → AH := fun q => am_rJ (am_rJ h 25 (fun x => if 6 * (q + 1) ≤ x ∧ x < 6 * (N + 1) then am_J h 25 (x - 6) else am_J h 25 x)) 26 (fun i => if q < i ∧ i ≤ N then am_J h 26 (i - 1) else am_J h 26 i)
    have SH25 : ∀ q, am_J (SH q) 25 = fun x => if 6 * (q + 1) ≤ x ∧ x < 6 * (N + 1) then am_J h 25 (x - 6) else am_J h 25 x := fun q => by
      show am_J (am_rJ _ 26 _) 25 = _
      rw [am_rJ_ne (by omega), am_rJ_J]
    have SH26 : ∀ q, am_J (SH q) 26 = fun i => if q < i ∧ i ≤ N then am_J h 26 (i - 1) else am_J h 26 i := fun q => am_rJ_J
    have SHo : ∀ q b, b ≠ 25 → b ≠ 26 → am_J (SH q) b = am_J h b := fun q b h1 h2 => by
      show am_J (am_rJ _ 26 _) b = _
      rw [am_rJ_ne h2, am_rJ_ne h1]
    have SHN : SH N = h := by
      refine am_extJ rfl rfl (fun b x => ?_) rfl
      by_cases b1 : b = 25
      · rw [b1, SH25]; dsimp only; rw [if_neg (by omega)]
      · by_cases b2 : b = 26
        · rw [b2, SH26]; dsimp only; rw [if_neg (by omega)]
        · rw [SHo N b b1 b2]
    have mS : ∀ q, mL (SH q) := fun q => mm.of rfl rfl
    have cS : ∀ q, am_I (SH q) 21 0 = nI A.1.1 := fun q => I.c
    have hstep : ∀ q, p < q + 1 → q + 1 ≤ N → am_sJ (am_fj (SH (q + 1)) 25 (6 * (q + 1)) 6 (fun k => am_J h 25 (6 * q + k))) 26 (q + 1) (am_J h 26 q) = SH q := fun q hq1 hq2 => by
      refine am_extJ rfl rfl (fun b x => ?_) rfl
      by_cases b1 : b = 25
      · rw [b1, am_sJ_ne (by omega), am_fj_J, SH25, SH25]
        dsimp only
        by_cases y : 6 * (q + 1) ≤ x ∧ x < 6 * (q + 1) + 6
        · rw [if_pos y, if_pos (by omega)]
          congr 1
          omega
        · rw [if_neg y]
          by_cases w : 6 * (q + 1 + 1) ≤ x ∧ x < 6 * (N + 1)
          · rw [if_pos w, if_pos (by omega)]
          · rw [if_neg w, if_neg (by omega)]
      · by_cases b2 : b = 26
        · rw [b2, am_sJ_J, am_fj_ne (by omega), SH26, SH26]
          by_cases y : x = q + 1
          · rw [y, am_ud_eq]
            dsimp only
            rw [if_pos (by omega), show q + 1 - 1 = q by omega]
          · rw [am_ud_ne y]
            dsimp only
            by_cases w : q + 1 < x ∧ x ≤ N
            · rw [if_pos w, if_pos (by omega)]
            · rw [if_neg w, if_neg (by omega)]
        · rw [am_sJ_ne b2, am_fj_ne b1, SHo _ b b1 b2, SHo _ b b1 b2]
    have key3 : ∀ d q, q = p + d → q ≤ N → am_ev 122 90 [.ref 20, .long (j_sum 6 e), am_ph, .int (nI p), .int (nI q), am_ph] [] (SH q) = am_ev 122 165 [.ref 20, .long (j_sum 6 e), am_ph, .int (nI p), .int (0 : Int32), am_ph] [] (SH p) := by
      intro d
      induction d with
      | zero =>
        intro q hq hqN
        obtain rfl : q = p := by omega
        rw [am_b122_90, if_neg (by rw [x_lt (by omega) (by omega)]; omega)]
      | succ d ih =>
        intro q hq hqN
        obtain ⟨q0, rfl⟩ : ∃ q0, q = q0 + 1 := ⟨q - 1, by omega⟩
        have i' := ih q0 (by omega) (by omega)
        rw [← hstep q0 (by omega) (by omega)] at i'
        have hin : ∀ d k, k + d = 6 → am_ev 122 99 [.ref 20, .long (j_sum 6 e), am_ph, .int (nI p), .int (nI (q0 + 1)), .int (nI k)] [] (am_fj (SH (q0 + 1)) 25 (6 * (q0 + 1)) k (fun k => am_J h 25 (6 * q0 + k))) = am_ev 122 90 [.ref 20, .long (j_sum 6 e), am_ph, .int (nI p), .int (nI q0), am_ph] [] (am_sJ (am_fj (SH (q0 + 1)) 25 (6 * (q0 + 1)) 6 (fun k => am_J h 25 (6 * q0 + k))) 26 (q0 + 1) (am_J h 26 q0)) := by
          intro d
          induction d with
          | zero =>
            intro k hk
            obtain rfl : k = 6 := by omega
            have m2 : mL (am_fj (SH (q0 + 1)) 25 (6 * (q0 + 1)) 6 (fun k => am_J h 25 (6 * q0 + k))) := (mS _).rJ
            have e26 : am_J (am_fj (SH (q0 + 1)) 25 (6 * (q0 + 1)) 6 (fun k => am_J h 25 (6 * q0 + k))) 26 q0 = am_J h 26 q0 := by
              rw [am_fj_ne (by omega), SH26]
              dsimp only
              rw [if_neg (by omega)]
            rw [am_b122_99, x_m1, x_c6, if_neg (by rw [x_lt (by omega) (by omega)]; omega), x_c1, x_sub (by omega), show q0 + 1 - 1 = q0 by omega, if_pos m2.k, m2.r9, x_oe, if_pos m2.k, x_oe, x_cl (by omega), x_cl (by omega), if_pos ⟨m2.k9, fun z => z.elim (nI_pos (by omega)) (by rw [m2.l9]; omega)⟩, if_pos ⟨m2.k9, fun z => z.elim (nI_pos (by omega)) (by rw [m2.l9]; omega)⟩, e26]
          | succ d ih =>
            intro k hk
            have i2 := ih (k + 1) (by omega)
            rw [← am_fj_s] at i2
            have m2 : mL (am_fj (SH (q0 + 1)) 25 (6 * (q0 + 1)) k (fun k => am_J h 25 (6 * q0 + k))) := (mS _).rJ
            have e25 : am_J (am_fj (SH (q0 + 1)) 25 (6 * (q0 + 1)) k (fun k => am_J h 25 (6 * q0 + k))) 25 (6 * q0 + k) = am_J h 25 (6 * q0 + k) := by
              rw [am_fj_J]
              dsimp only
              rw [if_neg (by omega), SH25]
              dsimp only
              rw [if_neg (by omega)]
            rw [am_b122_99, x_c6, if_pos (by rw [x_lt (by omega) (by omega)]; omega), if_pos m2.k, m2.r8, x_oe, if_pos m2.k, x_oe, x_c1, x_sub (by omega), show q0 + 1 - 1 = q0 by omega, pk_mul, pk_mul, nI_add, nI_add, x_cl (by omega), x_cl (by omega), if_pos ⟨m2.k8, fun z => z.elim (nI_pos (by omega)) (by rw [m2.l8]; omega)⟩, if_pos ⟨m2.k8, fun z => z.elim (nI_pos (by omega)) (by rw [m2.l8]; omega)⟩, e25, nI_add]
            exact i2
        have hin0 := hin 6 0 (by omega)
        rw [am_fj_0, nI_0] at hin0
        rw [am_b122_90, if_pos (by rw [x_lt (by omega) (by omega)]; omega), hin0]
        exact i'
    have e3 := key3 (N - p) N (by omega) (Nat.le_refl _)
    rw [SHN] at e3
    -- the new one is written
    have key4 : ∀ d k, k + d = 6 → am_ev 122 165 [.ref 20, .long (j_sum 6 e), am_ph, .int (nI p), .int (nI k), am_ph] [] (am_fj (SH p) 25 (6 * p) k e) = some (none, am_sI (am_sJ (am_fj (SH p) 25 (6 * p) 6 e) 26 p (j_sum 6 e)) 20 10 (nI (N + 1))) := by
      intro d
      induction d with
      | zero =>
        intro k hk
        obtain rfl : k = 6 := by omega
        have m2 : mL (am_fj (SH p) 25 (6 * p) 6 e) := (mS _).rJ
        have m3 : mL (am_sJ (am_fj (SH p) 25 (6 * p) 6 e) 26 p (j_sum 6 e)) := m2.sJ
        have e10 : am_I (am_sJ (am_fj (SH p) 25 (6 * p) 6 e) 26 p (j_sum 6 e)) 20 10 = nI N := L.1
        rw [am_b122_165, x_c6, if_neg (by rw [x_lt (by omega) (by omega)]; omega), if_pos m2.k, m2.r9, x_oe, x_cl (by omega), if_pos ⟨m2.k9, fun z => z.elim (nI_pos (by omega)) (by rw [m2.l9]; omega)⟩]
        try dsimp only
        rw [if_pos m3.k, if_pos m3.k, e10, nI_1]
      | succ d ih =>
        intro k hk
        have i2 := ih (k + 1) (by omega)
        rw [← am_fj_s] at i2
        have m2 : mL (am_fj (SH p) 25 (6 * p) k e) := (mS _).rJ
        have c2 : am_I (am_fj (SH p) 25 (6 * p) k e) 21 0 = nI A.1.1 := cS p
        have e30 : am_J (am_fj (SH p) 25 (6 * p) k e) 30 = am_J h 30 := by rw [am_fj_ne (by omega), SHo p 30 (by omega) (by omega)]
        rw [am_b122_165, x_c6, if_pos (by rw [x_lt (by omega) (by omega)]; omega), if_pos m2.k, m2.r8, x_oe, if_pos m2.k, m_cells m2 c2, x_bI, pk_mul, nI_add, x_cl (by omega)]
        by_cases hk2 : k < 2 * A.1.1
        · rw [if_pos (by rw [x_lt (by omega) (by omega)]; exact hk2), if_pos m2.k, m2.r15, x_oe, x_cl (by omega), if_pos ⟨m2.k15, fun z => z.elim (nI_pos (by omega)) (by rw [m2.l15]; omega)⟩, if_pos ⟨m2.k8, fun z => z.elim (nI_pos (by omega)) (by rw [m2.l8]; omega)⟩, e30, he k hk2, nI_1]
          exact i2
        · rw [h0 k (by omega)] at i2
          rw [if_neg (by rw [x_lt (by omega) (by omega)]; exact hk2), x_cl (by omega), if_pos ⟨m2.k8, fun z => z.elim (nI_pos (by omega)) (by rw [m2.l8]; omega)⟩, nI_1]
          exact i2
    have e4 := key4 6 0 (by omega)
    rw [am_fj_0, nI_0] at e4
    refine ⟨_, N + 1, E1, e3.trans e4, ⟨rfl, rfl, fun b hb1 => ?_, fun k hk => ?_, fun b b1 b2 => ?_⟩, ⟨?_, fun i hi k hk => ?_, fun i hi => ?_⟩, Q1, fun i hi => ?_, p, by omega, fun k _ => by rw [Ep]⟩
    · rw [am_sI_ne hb1]; rfl
    · rw [am_sI_I, am_ud_ne hk]; rfl
    · show am_J (am_sJ _ 26 p _) b = _
      rw [am_sJ_ne b2, am_fj_ne b1, SHo p b b1 b2]
    · rw [am_sI_I, am_ud_eq]
    · show am_J (am_sJ _ 26 p _) 25 _ = _
      rw [am_sJ_ne (by omega), am_fj_J]
      dsimp only
      rcases (show i < p ∨ i = p ∨ p < i by omega) with y | y | y
      · rw [if_neg (by omega), SH25, Elo i y]
        dsimp only
        rw [if_neg (by omega)]
        exact L.2.1 i (by omega) k hk
      · rw [y, if_pos (by omega), Ep, show 6 * p + k - 6 * p = k by omega]
      · rw [if_neg (by omega), SH25, Ehi i y]
        dsimp only
        rw [if_pos (by omega), show 6 * i + k - 6 = 6 * (i - 1) + k by omega]
        exact L.2.1 (i - 1) (by omega) k hk
    · show am_J (am_sJ _ 26 p _) 26 _ = _
      rw [am_sJ_J]
      rcases (show i < p ∨ i = p ∨ p < i by omega) with y | y | y
      · rw [am_ud_ne (by omega), am_fj_ne (by omega), SH26, Elo i y]
        dsimp only
        rw [if_neg (by omega)]
        exact L.2.2 i (by omega)
      · rw [y, am_ud_eq, Ep]
      · rw [am_ud_ne (by omega), am_fj_ne (by omega), SH26, Ehi i y]
        dsimp only
        rw [if_pos (by omega)]
        exact L.2.2 (i - 1) (by omega)
    · by_cases y : i < p
      · exact ⟨i, by omega, fun k _ => by rw [Elo i y]⟩
      · exact ⟨i + 1, by omega, fun k _ => by rw [Ehi (i + 1) (by omega), show i + 1 - 1 = i by omega]⟩
  have e5 : am_ev 122 4 [.ref 20, .long (0 : Int64), am_ph, .int (0 : Int32), am_ph, am_ph] [] h = am_ev 122 54 [.ref 20, .long (j_sum 6 e), am_ph, .int (nI p), am_ph, am_ph] [] h := e1.trans e2
  rw [e5, am_b122_54, if_pos mm.k, L.1]
  by_cases hpN : p < N
  · obtain ⟨r, er, hr⟩ := m_ahead I hg L Q hpN hx h0 he
    rw [if_pos (by rw [x_lt (by omega) (by omega)]; exact hpN), if_pos mm.k, er, x_bJ]
    simp only [lg_cmp_eq]
    rcases hr with ⟨r1, r2⟩ | ⟨r1, r2⟩ | ⟨r1, r2, r3⟩
    · exact absurd r2 (hnb hpN)
    · rw [if_pos r1]
      exact ⟨h, N, E, rfl, mLf.rf, L, Q, fun i hi => ⟨i, hi, fun _ _ => rfl⟩, p, hpN, r2⟩
    · rw [if_neg r2, if_pos mm.k, if_pos mm.k]
      refine hnew (fun i h1 h2 => ?_)
      by_cases y : i = p
      · rw [y]; exact r3
      · exact z_bef.trans se (su p hpN) (su i h2) r3 (Q.2 p i (by omega) h2)
  · rw [if_neg (by rw [x_lt (by omega) (by omega)]; exact hpN), if_pos mm.k, if_pos mm.k, ← L.1]
    exact hnew (fun i h1 h2 => by omega)
end ins2
