/-! ===== the Model: its system of rows ===== -/
/-- runs on the side: of rows, pivots and the looked-at inequality alone -/
def mSc (h h1 : AH) : Prop := h1.1 = h.1 ∧ am_R h1 = am_R h ∧ (∀ b, b ≠ 20 → b < 28 ∨ 30 < b → am_I h1 b = am_I h b) ∧ (∀ k, k ≠ 5 → k ≠ 6 → k ≠ 7 → am_I h1 20 k = am_I h 20 k) ∧ ∀ b, b < 28 ∨ 30 < b → am_J h1 b = am_J h b
theorem mSc.rf {h : AH} : mSc h h := ⟨rfl, rfl, fun _ _ _ => rfl, fun _ _ _ _ => rfl, fun _ _ => rfl⟩
theorem mSc.tr {h h1 h2 : AH} (a : mSc h h1) (b : mSc h1 h2) : mSc h h2 := ⟨b.1.trans a.1, b.2.1.trans a.2.1, fun x p q => (b.2.2.1 x p q).trans (a.2.2.1 x p q), fun k p q r => (b.2.2.2.1 k p q r).trans (a.2.2.2.1 k p q r), fun x p => (b.2.2.2.2 x p).trans (a.2.2.2.2 x p)⟩
theorem mSc.of {h h1 : AH} {P : Nat → Prop} (f : am_fr h h1 P) (hp : ∀ b, P b → 28 ≤ b ∧ b ≤ 30) : mSc h h1 := ⟨f.1, f.2.1, fun b _ hb => f.2.2.1 b (fun z => by have := hp b z; omega), fun k _ _ _ => by rw [f.2.2.1 20 (fun z => by have := hp 20 z; omega)], fun b hb => f.2.2.2 b (fun z => by have := hp b z; omega)⟩
theorem mSc.sJ {h : AH} {b k : Nat} {v : Int64} (hb : b = 28 ∨ b = 30) : mSc h (am_sJ h b k v) := mSc.of (P := fun x => x = b) (am_fr_sJ rfl) (fun x z => by omega)
theorem mSc.rJ {h : AH} {b : Nat} {f : Nat → Int64} (hb : b = 28 ∨ b = 30) : mSc h (am_rJ h b f) := mSc.of (P := fun x => x = b) (am_fr_rJ rfl) (fun x z => by omega)
theorem mSc.p {h : AH} {k : Nat} {v : Int32} : mSc h (am_sI h 29 k v) := mSc.of (P := fun x => x = 29) (am_sI_fr rfl) (fun x z => by omega)
theorem mSc.K {h : AH} {c q : Nat} : mSc h (mK h c q) := ⟨rfl, rfl, fun x p q => mK_I p, fun k h1 h2 h3 => by
  unfold mK
  rw [am_sI_I, am_ud_ne h3, am_sI_I, am_ud_ne h2, am_sI_I, am_ud_ne h1], fun _ _ => rfl⟩
theorem mSc.L {h h1 : AH} (s : mSc h h1) (m : mL h) : mL h1 := m.of s.1 s.2.1
theorem mSc.I {h h1 : AH} {A : QA} (s : mSc h h1) (I : mI h A) : mI h1 A := I.row s.1 s.2.1 (s.2.2.1 21 (by omega) (by omega)) I.2.1 I.c3 (s.2.2.1 22 (by omega) (by omega)) (s.2.2.1 23 (by omega) (by omega)) (s.2.2.1 24 (by omega) (by omega)) (s.2.2.1 31 (by omega) (by omega)) (s.2.2.2.1 2 (by omega) (by omega) (by omega)) (s.2.2.2.1 17 (by omega) (by omega) (by omega))
theorem mSc.fr {h h1 : AH} (s : mSc h h1) : mfr h h1 := ⟨s.1, s.2.1, fun b hb => s.2.2.1 b (by omega) (by omega), fun b hb => s.2.2.2.2 b (by omega)⟩
theorem mSc.c {h h1 : AH} {c : Nat} (s : mSc h h1) (e : am_I h 21 0 = nI c) : am_I h1 21 0 = nI c := by rw [s.2.2.1 21 (by omega) (by omega)]; exact e
/-- the system holds these rows -/
def mSy (h : AH) (m d : Nat) (T : Nat → Nat → Int) : Prop := ∀ i, i < m → ∀ k, k < d → (am_J h 28 (6 * i + k)).toInt = T i k
section sys
variable {h : AH}
theorem m_get (m : mL h) {i k : Nat} (hi : i < 5) (hk : k < 6) : am_ev 113 0 [.ref 20, .int (nI i), .int (nI k)] [] h = some (some (.long (am_J h 28 (6 * i + k))), h) := by
  rw [am_b113_0, if_pos m.k, m.r13, x_oe, x_c6, pk_mul, nI_add, x_cl (by omega), if_pos ⟨m.k13, fun z => z.elim (nI_pos (by omega)) (by rw [m.l13]; omega)⟩]
theorem m_eucl : ∀ (N y x : Nat) (a b : Int64), y < N → a.toInt = x → b.toInt = y → ∃ g : Int64, am_ev 112 28 [am_ph, am_ph, am_ph, am_ph, .long a, am_ph, .long b, am_ph, am_ph, am_ph] [] h = some (some (.long g), h) ∧ g.toInt = Nat.gcd x y := by
  intro N
  induction N with
  | zero => intro y x a b hy; omega
  | succ N ih =>
    intro y x a b hy ha hb
    rw [am_b112_28]
    simp only [lg_cmp_eq]
    by_cases h0 : b = 0
    · have y0 : y = 0 := by rw [h0] at hb; have : (0 : Int) = y := hb; omega
      rw [if_pos h0]
      refine ⟨a, rfl, ?_⟩
      rw [y0, Nat.gcd_zero_right]; exact ha
    · have y0 : 0 < y := by
        rcases Nat.eq_zero_or_pos y with z | z
        · exfalso
          rw [z] at hb
          exact h0 (Int64.toInt_inj.1 hb)
        · exact z
      rw [if_neg h0, if_neg h0]
      have hr : (a - a / b * b).toInt = ((x % y : Nat) : Int) := by
        rw [y_rem (by omega), ha, hb]
        rfl
      obtain ⟨g, e1, e2⟩ := ih (x % y) y b (a - a / b * b) (by have := Nat.mod_lt x y0; omega) hb hr
      exact ⟨g, e1, by rw [e2, Nat.gcd_comm x y, Nat.gcd_rec y x, Nat.gcd_comm]⟩
theorem m_gcd {a b : Int64} (ha : -9223372036854775808 < a.toInt) (hb : -9223372036854775808 < b.toInt) : ∃ g : Int64, am_ev 112 0 [.long a, am_ph, .long b, am_ph, am_ph, am_ph, am_ph, am_ph, am_ph, am_ph] [] h = some (some (.long g), h) ∧ g.toInt = Nat.gcd a.toInt.natAbs b.toInt.natAbs := by
  have ab : ∀ x : Int64, -9223372036854775808 < x.toInt → ∃ y : Int64, (if x < 0 then -x else x) = y ∧ y.toInt = x.toInt.natAbs := fun x hx => by
    refine ⟨_, rfl, ?_⟩
    have e : (x < 0) = (x.toInt < 0) := by rw [y_lt]; rfl
    by_cases h1 : x < 0
    · rw [if_pos h1, y_neg hx]
      rw [e] at h1
      omega
    · rw [if_neg h1]
      rw [e] at h1
      omega
  obtain ⟨a', ea, ea2⟩ := ab a ha
  obtain ⟨b', eb, eb2⟩ := ab b hb
  obtain ⟨g, e1, e2⟩ := m_eucl (h := h) (b.toInt.natAbs + 1) b.toInt.natAbs a.toInt.natAbs a' b' (by omega) ea2 eb2
  refine ⟨g, ?_, e2⟩
  have e12 : ∀ s : Int64, am_ev 112 12 [am_ph, am_ph, .long b, am_ph, am_ph, am_ph, am_ph, am_ph, am_ph, am_ph] [.long s] h = am_ev 112 28 [am_ph, am_ph, am_ph, am_ph, .long s, am_ph, .long b', am_ph, am_ph, am_ph] [] h := fun s => by
    rw [am_b112_12]
    simp only [lg_cmp_lt]
    by_cases h1 : b < 0
    · rw [if_pos h1] at eb ⊢; rw [eb]
    · rw [if_neg h1] at eb ⊢; rw [eb]
  rw [am_b112_0, e12, e12]
  simp only [lg_cmp_lt]
  by_cases h1 : a < 0
  · rw [if_pos h1] at ea ⊢; rw [ea]; exact e1
  · rw [if_neg h1] at ea ⊢; rw [ea]; exact e1
theorem y_divx {a b : Int64} {q : Int} (hb : b.toInt ≠ 0) (e : a.toInt = b.toInt * q) (hq1 : -9223372036854775808 ≤ q) (hq2 : q < 9223372036854775808) : (a / b).toInt = q := by
  rw [Int64.toInt_div, e, Int.mul_tdiv_cancel_left _ hb, y_bm hq1 hq2]
theorem m_shorten {c m r : Nat} {T : Nat → Nat → Int} (mm : mL h) (hc : am_I h 21 0 = nI c) (h3 : c = 2 ∨ c = 3) (hm : m ≤ 5) (hr : r < m) (hS : mSy h m (2 * c) T) (hb : ∀ k, k < 2 * c → -9223372036854775808 < T r k) : ∃ h1 T', am_ev 115 0 [.ref 20, .int (nI r), am_ph, am_ph, am_ph] [] h = some (none, h1) ∧ am_fr h h1 (fun b => b = 28) ∧ mSy h1 m (2 * c) T' ∧ (∀ i, i ≠ r → T' i = T i) ∧ (∃ G : Int, 0 < G ∧ ∀ k, k < 2 * c → G * T' r k = T r k) ∧ ((∀ k, k < 2 * c → T' r k = 0) ∨ z_prim (2 * c) (T' r)) := by
  have h6 : 2 * c ≤ 6 := by rcases h3 with e | e <;> omega
  have key1 : ∀ d j, j + d = 2 * c → ∀ g : Int64, g.toInt = z_gcd j (T r) → ∃ g' : Int64, g'.toInt = z_gcd (2 * c) (T r) ∧ am_ev 115 5 [.ref 20, .int (nI r), .long g, am_ph, .int (nI j)] [] h = am_ev 115 35 [.ref 20, .int (nI r), .long g', am_ph, .int (0 : Int32)] [] h := by
    intro d
    induction d with
    | zero =>
      intro j hj g hg
      obtain rfl : j = 2 * c := by omega
      refine ⟨g, hg, ?_⟩
      rw [am_b115_5, if_pos mm.k, m_cells mm hc, x_bI, if_neg (by rw [x_lt (by omega) (by omega)]; omega)]
    | succ d ih =>
      intro j hj g hg
      have eT := hS r hr j (by omega)
      obtain ⟨g1, e1, e2⟩ := m_gcd (h := h) (a := g) (b := am_J h 28 (6 * r + j)) (by omega) (by rw [eT]; exact hb j (by omega))
      obtain ⟨g', e3, e4⟩ := ih (j + 1) (by omega) g1 (by
        rw [e2, hg, eT, z_gcd_s]
        rfl)
      refine ⟨g', e3, ?_⟩
      rw [am_b115_5, if_pos mm.k, m_cells mm hc, x_bI, if_pos (by rw [x_lt (by omega) (by omega)]; omega), if_pos mm.k, m_get mm (by omega) (by omega), x_bJ, e1, x_bJ, nI_1]
      exact e4
  obtain ⟨g, hg, e0⟩ := key1 (2 * c) 0 (by omega) (0 : Int64) rfl
  rw [nI_0] at e0
  generalize hG : z_gcd (2 * c) (T r) = G at hg
  by_cases h1 : 1 < G
  · have hdv : ∀ k, k < 2 * c → (G : Int) * (T r k / G) = T r k := fun k hk => by
      have := z_gcd_dvd (v := T r) (2 * c) k hk
      rw [hG] at this
      exact Int.mul_ediv_cancel' this
    have hgt : 0 < lg_cmp g (1 : Int64) := by
      rw [lg_cmp_gt, y_lt, hg]
      show (1 : Int) < G
      omega
    have hne : ¬ g = 0 := fun z => by
      rw [z] at hg
      have : (0 : Int) = G := hg
      omega
    let F : Nat → Int64 := fun k => am_J h 28 (6 * r + k) / g
    have key2 : ∀ d j, j + d = 2 * c → am_ev 115 35 [.ref 20, .int (nI r), .long g, am_ph, .int (nI j)] [] (am_fj h 28 (6 * r) j F) = some (none, am_fj h 28 (6 * r) (2 * c) F) := by
      intro d
      induction d with
      | zero =>
        intro j hj
        obtain rfl : j = 2 * c := by omega
        have m2 : mL (am_fj h 28 (6 * r) (2 * c) F) := mm.rJ
        have c2 : am_I (am_fj h 28 (6 * r) (2 * c) F) 21 0 = nI c := hc
        rw [am_b115_35, if_pos m2.k, m_cells m2 c2, x_bI, if_neg (by rw [x_lt (by omega) (by omega)]; omega)]
      | succ d ih =>
        intro j hj
        have m2 : mL (am_fj h 28 (6 * r) j F) := mm.rJ
        have c2 : am_I (am_fj h 28 (6 * r) j F) 21 0 = nI c := hc
        have i' := ih (j + 1) (by omega)
        rw [← am_fj_s] at i'
        have ev : am_J (am_fj h 28 (6 * r) j F) 28 (6 * r + j) = am_J h 28 (6 * r + j) := by
          rw [am_fj_J]
          dsimp only
          rw [if_neg (by omega)]
        rw [am_b115_35, if_pos m2.k, m_cells m2 c2, x_bI, if_pos (by rw [x_lt (by omega) (by omega)]; omega), if_pos hgt, if_pos m2.k, m2.r13, x_oe, x_c6, pk_mul, nI_add, x_cl (by omega), if_pos ⟨m2.k13, fun z => z.elim (nI_pos (by omega)) (by rw [m2.l13]; omega)⟩, if_neg hne, if_pos ⟨m2.k13, fun z => z.elim (nI_pos (by omega)) (by rw [m2.l13]; omega)⟩, ev, nI_1]
        exact i'
    have k0 := key2 (2 * c) 0 (by omega)
    rw [am_fj_0, nI_0] at k0
    refine ⟨am_fj h 28 (6 * r) (2 * c) F, fun i => if i = r then (fun k => T r k / G) else T i, ?_, am_fr_fj rfl, fun i hi k hk => ?_, fun i hi => if_neg hi, ⟨G, by omega, fun k hk => ?_⟩, Or.inr ?_⟩
    · rw [am_b115_0]; exact e0.trans k0
    · rw [am_fj_J]
      dsimp only
      by_cases e : i = r
      · rw [if_pos e, e, if_pos (by omega), show 6 * r + k - 6 * r = k by omega]
        show (am_J h 28 (6 * r + k) / g).toInt = _
        have eT := hS r hr k hk
        have hrng := y_rng (am_J h 28 (6 * r + k))
        have h5 := hdv k hk
        refine y_divx (by omega) (by rw [eT, hg]; exact h5.symm) ?_ ?_
        · rw [← eT]
          have := Int.le_ediv_of_mul_le (a := -9223372036854775808) (b := (am_J h 28 (6 * r + k)).toInt) (c := (G : Int)) (by omega) (by
            have h9 : (-9223372036854775808 : Int) * G ≤ -9223372036854775808 := by omega
            exact Int.le_trans h9 hrng.1)
          exact this
        · rw [← eT]
          refine Int.ediv_lt_of_lt_mul (by omega) ?_
          omega
      · rw [if_neg e, if_neg (by omega)]
        exact hS i hi k hk
    · dsimp only
      rw [if_pos rfl]
      exact hdv k hk
    · dsimp only
      rw [if_pos rfl]
      apply z_prim_of
      have e2 := z_gcd_congr (v := T r) (w := fun k => (G : Int) * (T r k / G)) (2 * c) (fun k hk => (hdv k hk).symm)
      rw [z_gcd_mul, hG, Int.natAbs_natCast] at e2
      have e3 : G * 1 = G * z_gcd (2 * c) (fun k => T r k / G) := by rw [Nat.mul_one]; exact e2
      exact (Nat.eq_of_mul_eq_mul_left (by omega) e3).symm
  · refine ⟨h, T, ?_, am_fr.rf, hS, fun _ _ => rfl, ⟨1, by omega, fun k _ => Int.one_mul _⟩, ?_⟩
    · have hgt : ¬ 0 < lg_cmp g (1 : Int64) := by
        rw [lg_cmp_gt, y_lt, hg]
        show ¬ (1 : Int) < G
        omega
      rw [am_b115_0]
      refine e0.trans ?_
      rw [am_b115_35, if_pos mm.k, m_cells mm hc, x_bI]
      by_cases h2 : (0 : Int32) < nI (2 * c)
      · rw [if_pos h2, if_neg hgt]
      · rw [if_neg h2]
    · rcases (show G = 0 ∨ G = 1 by omega) with z | z
      · left
        rw [z] at hG
        exact z_gcd_0 hG
      · right
        rw [z] at hG
        exact z_prim_of hG
end sys
