/-! ===== the Model: the system laid and solved ===== -/
theorem z_sum_ex {m a b : Nat} {f : Nat → Int} (ha : a < m) (hb : b < m) : z_sum m (z_ex f a b) = z_sum m f := by
  by_cases e : a = b
  · subst e
    refine z_sum_congr (fun k _ => ?_)
    unfold z_ex
    by_cases e1 : k = a
    · rw [if_pos e1, e1]
    · rw [if_neg e1, if_neg e1]
  · have h1 : z_sum m (fun k => z_ex f a b k - f k) = 0 := by
      rw [z_sum_two ha hb e (fun k _ h1 h2 => by unfold z_ex; rw [if_neg h1, if_neg h2]; omega)]
      unfold z_ex
      rw [if_pos rfl, if_neg (show ¬ b = a by omega), if_pos rfl]
      omega
    rw [z_sum_sub] at h1
    omega
theorem z_sum_sub_seq {f : Nat → Int} (hf : ∀ i, 0 ≤ f i) : ∀ (m b : Nat) (S : Nat → Nat), (∀ r r', r < r' → r' < m → S r < S r') → (∀ r, r < m → S r < b) → z_sum m (fun r => f (S r)) ≤ z_sum b f := by
  intro m
  induction m with
  | zero => intro b S _ _; exact z_sum_nn (fun k _ => hf k)
  | succ m ih =>
    intro b S h1 h2
    have h3 := ih (S m) S (fun r r' a b => h1 r r' a (by omega)) (fun r hr => h1 r m hr (by omega))
    have hb := h2 m (by omega)
    obtain ⟨q, hq⟩ : ∃ q, b = (S m + 1) + q := ⟨b - (S m + 1), by omega⟩
    have h4 := z_sum_le_more (n := S m + 1) (r := q) hf
    rw [← hq] at h4
    have h5 : z_sum (S m + 1) f = z_sum (S m) f + f (S m) := rfl
    show z_sum m _ + f (S m) ≤ _
    omega
section solve
variable {h : AH} {A : QA}
theorem m_laySys {m : Nat} {pk : Nat → Nat} (I : mI h A) (hm : m + 1 = 2 * A.1.1) (hpk : ∀ r, r < m → am_I h 27 r = nI (pk r) ∧ pk r < 2 * A.1.1 + q_nq A.1.1) : ∃ h1, am_ev 114 0 [.ref 20, am_ph, am_ph, am_ph] [] h = some (none, h1) ∧ mSc h h1 ∧ mSy h1 m (2 * A.1.1) (fun r => z_row A.1.1 (q_g A.1) (pk r)) := by
  have h3 := I.c3
  have h6 := I.c6
  have h8 := q_nq_le h3
  have key : ∀ d r, r + d = m → ∀ M : AH, mSc h M → mSy M r (2 * A.1.1) (fun r => z_row A.1.1 (q_g A.1) (pk r)) → ∃ h1, am_ev 114 7 [.ref 20, .int (nI (2 * A.1.1)), .int (nI r), am_ph] [] M = some (none, h1) ∧ mSc h h1 ∧ mSy h1 m (2 * A.1.1) (fun r => z_row A.1.1 (q_g A.1) (pk r)) := by
    intro d
    induction d with
    | zero =>
      intro r hr M s SM
      obtain rfl : r = m := by omega
      refine ⟨M, ?_, s, SM⟩
      rw [am_b114_7, x_c1, x_sub (by omega), if_neg (by rw [x_lt (by omega) (by omega)]; omega)]
    | succ d ih =>
      intro r hr M s SM
      have IM := s.I I
      have mM := IM.1
      have cM : am_I M 21 0 = nI A.1.1 := IM.c
      obtain ⟨p1, p2⟩ := hpk r (by omega)
      have p1M : am_I M 27 r = nI (pk r) := by rw [s.2.2.1 27 (by omega) (by omega)]; exact p1
      -- the row is written
      have row : ∀ (M0 : AH) (F : Nat → Int64), mSc M M0 → am_J M0 28 = am_J M 28 → (∀ k, k < 2 * A.1.1 → (F k).toInt = z_row A.1.1 (q_g A.1) (pk r) k) → (∀ k, k < 2 * A.1.1 → ∀ M1 : AH, M1 = am_fj M0 28 (6 * r) k F → am_ev 114 38 [.ref 20, .int (nI (2 * A.1.1)), .int (nI r), .int (nI k)] [] M1 = am_ev 114 38 [.ref 20, .int (nI (2 * A.1.1)), .int (nI r), .int (nI (k + 1))] [] (am_sJ M1 28 (6 * r + k) (F k))) → ∃ h1, am_ev 114 38 [.ref 20, .int (nI (2 * A.1.1)), .int (nI r), .int (0 : Int32)] [] M0 = some (none, h1) ∧ mSc h h1 ∧ mSy h1 m (2 * A.1.1) (fun r => z_row A.1.1 (q_g A.1) (pk r)) := by
        intro M0 F s0 eJ hF hstep
        have key2 : ∀ d k, k + d = 2 * A.1.1 → am_ev 114 38 [.ref 20, .int (nI (2 * A.1.1)), .int (nI r), .int (nI k)] [] (am_fj M0 28 (6 * r) k F) = am_ev 114 7 [.ref 20, .int (nI (2 * A.1.1)), .int (nI (r + 1)), am_ph] [] (am_fj M0 28 (6 * r) (2 * A.1.1) F) := by
          intro d
          induction d with
          | zero =>
            intro k hk
            obtain rfl : k = 2 * A.1.1 := by omega
            rw [am_b114_38, if_neg (by rw [x_lt (by omega) (by omega)]; omega), nI_1]
          | succ d ih =>
            intro k hk
            rw [hstep k (by omega) _ rfl, am_fj_s]
            exact ih (k + 1) (by omega)
        have k0 := key2 (2 * A.1.1) 0 (by omega)
        rw [am_fj_0, nI_0] at k0
        obtain ⟨h1, e1, s1, S1⟩ := ih (r + 1) (by omega) (am_fj M0 28 (6 * r) (2 * A.1.1) F) (s.tr (s0.tr (mSc.rJ (Or.inl rfl)))) (fun i hi k hk => by
          rw [am_fj_J]
          dsimp only
          by_cases e : i = r
          · rw [e, if_pos (by omega), show 6 * r + k - 6 * r = k by omega]
            exact hF k hk
          · rw [if_neg (by omega), eJ]
            exact SM i (by omega) k hk)
        exact ⟨h1, k0.trans e1, s1, S1⟩
      rw [am_b114_7, x_c1, x_sub (by omega), if_pos (by rw [x_lt (by omega) (by omega)]; omega), if_pos mM.k, mM.r12, x_oe, x_cl (by omega), if_pos (x_rdc mM.k12 mM.l12 (by omega) (by omega)), p1M]
      have hlt : (nI (pk r) < nI (2 * A.1.1)) = (pk r < 2 * A.1.1) := x_lt (by omega) (by omega)
      simp only [hlt]
      by_cases hp : pk r < 2 * A.1.1
      · rw [if_pos hp]
        refine row M (fun k => if pk r = k then 1 else 0) mSc.rf rfl (fun k hk => ?_) (fun k hk M1 e1 => ?_)
        · unfold z_row
          try dsimp only
          rw [if_pos hp]
          by_cases e : pk r = k
          · rw [if_pos e, if_pos e]; rfl
          · rw [if_neg e, if_neg e]; rfl
        · have s1 : mSc M M1 := by rw [e1]; exact mSc.rJ (Or.inl rfl)
          have m1 : mL M1 := s1.L mM
          have p1' : am_I M1 27 r = nI (pk r) := by rw [s1.2.2.1 27 (by omega) (by omega)]; exact p1M
          have hek : (nI (pk r) = nI k) = (pk r = k) := propext (nI_eq (by omega) (by omega))
          rw [am_b114_38, if_pos (by rw [x_lt (by omega) (by omega)]; exact hk), if_pos m1.k, m1.r13, x_oe, if_pos m1.k, m1.r12, x_oe, x_cl (by omega), if_pos (x_rdc m1.k12 m1.l12 (by omega) (by omega)), p1']
          simp only [hlt]
          rw [if_pos hp, if_pos m1.k, x_oe, if_pos (x_rdc m1.k12 m1.l12 (by omega) (by omega)), p1']
          simp only [hek]
          rw [x_c6, pk_mul, nI_add, x_cl (by omega), nI_1]
          by_cases e : pk r = k
          · rw [if_pos e, if_pos e, if_pos ⟨m1.k13, fun z => z.elim (nI_pos (by omega)) (by rw [m1.l13]; omega)⟩]
          · rw [if_neg e, if_neg e, if_pos ⟨m1.k13, fun z => z.elim (nI_pos (by omega)) (by rw [m1.l13]; omega)⟩]
      · rw [if_neg hp, if_pos mM.k, x_oe, if_pos (x_rdc mM.k12 mM.l12 (by omega) (by omega)), if_pos mM.k, p1M, x_sub (by omega), m_look mM cM h3 (show pk r - 2 * A.1.1 < q_nq A.1.1 by omega), x_bV]
        refine row (mK M A.1.1 (pk r - 2 * A.1.1)) (fun k => (q_ls A.1.1 (q_g A.1) (pk r - 2 * A.1.1) k).toInt64) mSc.K rfl (fun k hk => ?_) (fun k hk M1 e1 => ?_)
        · unfold z_row
          try dsimp only
          rw [if_neg hp, x_l]
        · have e1' : M1 = mK (am_fj M 28 (6 * r) k (fun k => (q_ls A.1.1 (q_g A.1) (pk r - 2 * A.1.1) k).toInt64)) A.1.1 (pk r - 2 * A.1.1) := e1
          generalize hM2 : am_fj M 28 (6 * r) k (fun k => (q_ls A.1.1 (q_g A.1) (pk r - 2 * A.1.1) k).toInt64) = M2 at e1'
          have s2 : mSc M M2 := by rw [← hM2]; exact mSc.rJ (Or.inl rfl)
          have I2 := s2.I IM
          have s1 : mSc M M1 := by rw [e1']; exact s2.tr mSc.K
          have m1 : mL M1 := s1.L mM
          have p1' : am_I M1 27 r = nI (pk r) := by rw [s1.2.2.1 27 (by omega) (by omega)]; exact p1M
          have el := m_loss (k := k) I2.1 I2.c h3 (show pk r - 2 * A.1.1 < q_nq A.1.1 by omega) hk
          rw [← e1', q_ls_congr h3 (show pk r - 2 * A.1.1 < q_nq A.1.1 by omega) hk I2.G'] at el
          rw [am_b114_38, if_pos (by rw [x_lt (by omega) (by omega)]; exact hk), if_pos m1.k, m1.r13, x_oe, if_pos m1.k, m1.r12, x_oe, x_cl (by omega), if_pos (x_rdc m1.k12 m1.l12 (by omega) (by omega)), p1']
          simp only [hlt]
          rw [if_neg hp, if_pos m1.k, el, x_bI, x_c6, pk_mul, nI_add, x_cl (by omega), if_pos ⟨m1.k13, fun z => z.elim (nI_pos (by omega)) (by rw [m1.l13]; omega)⟩, nI_1]
  obtain ⟨h1, e, s, S⟩ := key m 0 (by omega) h mSc.rf (fun i hi => by omega)
  rw [nI_0] at e
  refine ⟨h1, ?_, s, S⟩
  rw [am_b114_0, if_pos I.1.k, m_cells I.1 I.c, x_bI]
  exact e
/-- how far the free columns are known -/
def mFr (c j fr : Nat) (free : Int32) (piv : Nat → Nat) : Prop := fr + j = c ∧ (fr = 0 → ∀ k, k < c → ∃ i, i < j ∧ k = piv i) ∧ (fr = 1 → ∃ f, f < c ∧ free = nI f ∧ (∀ i, i < j → piv i ≠ f) ∧ ∀ k, k < c → k = f ∨ ∃ i, i < j ∧ k = piv i) ∧ (2 ≤ fr → ∃ f1 f2, f1 < c ∧ f2 < c ∧ f1 ≠ f2 ∧ (∀ i, i < j → piv i ≠ f1) ∧ ∀ i, i < j → piv i ≠ f2)
/-- solved, with one free column -/
def mOne (h : AH) (m d f : Nat) (R0 : Nat → Nat → Int) : Prop := ∃ piv T R, gI d m d m piv T R ∧ mSy h m d T ∧ (∀ i, i < m → am_I h 29 i = nI (piv i)) ∧ (∀ k, k < d → z_sum m (fun i => ((R i k).natAbs : Int)) ≤ 55) ∧ (∀ w, (∀ i, i < m → z_dot d (R i) w = 0) ↔ ∀ i, i < m → z_dot d (R0 i) w = 0) ∧ f < d ∧ (∀ i, i < m → piv i ≠ f) ∧ ∀ k, k < d → k = f ∨ ∃ i, i < m ∧ k = piv i
theorem m_solve {m : Nat} {R0 : Nat → Nat → Int} (I : mI h A) (hm : m + 1 = 2 * A.1.1) (hS : mSy h m (2 * A.1.1) R0) (hsm : ∀ i, i < m → ∀ k, k < 2 * A.1.1 → (R0 i k).natAbs ≤ 18) (hcol : ∀ k, k < 2 * A.1.1 → z_sum m (fun i => ((R0 i k).natAbs : Int)) ≤ 55) : ∃ h1, mSc h h1 ∧ ((∃ f, am_ev 118 0 [.ref 20, am_ph, am_ph, am_ph, am_ph, am_ph, am_ph] [] h = some (some (.int (nI f)), h1) ∧ mOne h1 m (2 * A.1.1) f R0) ∨ am_ev 118 0 [.ref 20, am_ph, am_ph, am_ph, am_ph, am_ph, am_ph] [] h = some (some (.int (-6)), h1) ∧ ∀ v : Nat → Int, ¬ ∀ w, (∀ i, i < m → z_dot (2 * A.1.1) (R0 i) w = 0) → ∃ a b : Int, a ≠ 0 ∧ ∀ k, k < 2 * A.1.1 → a * w k = b * v k) := by
  have h3 := I.c3
  have h6 := I.c6
  have hm5 : m ≤ 5 := by omega
  have key : ∀ e c, c + e = 2 * A.1.1 → ∀ (M : AH) (j fr : Nat) (free : Int32) (piv : Nat → Nat) (T R : Nat → Nat → Int), mSc h M → gI (2 * A.1.1) m c j piv T R → mSy M m (2 * A.1.1) T → (∀ i, i < j → am_I M 29 i = nI (piv i)) → (∀ k, k < 2 * A.1.1 → z_sum m (fun i => ((R i k).natAbs : Int)) ≤ 55) → (∀ w, (∀ i, i < m → z_dot (2 * A.1.1) (R i) w = 0) ↔ ∀ i, i < m → z_dot (2 * A.1.1) (R0 i) w = 0) → mFr c j fr free piv → ∃ h1, mSc h h1 ∧ ((∃ f, am_ev 118 16 [.ref 20, .int (nI (2 * A.1.1)), .int (nI j), .int free, .int (nI fr), .int (nI c), am_ph] [] M = some (some (.int (nI f)), h1) ∧ mOne h1 m (2 * A.1.1) f R0) ∨ am_ev 118 16 [.ref 20, .int (nI (2 * A.1.1)), .int (nI j), .int free, .int (nI fr), .int (nI c), am_ph] [] M = some (some (.int (-6)), h1) ∧ ∀ v : Nat → Int, ¬ ∀ w, (∀ i, i < m → z_dot (2 * A.1.1) (R0 i) w = 0) → ∃ a b : Int, a ≠ 0 ∧ ∀ k, k < 2 * A.1.1 → a * w k = b * v k) := by
    intro e
    induction e with
    | zero =>
      intro c hc M j fr free piv T R s g SM hp hcl heq hfr
      obtain rfl : c = 2 * A.1.1 := by omega
      obtain ⟨r1, r2, r3, r4⟩ := hfr
      have hjm : j ≤ m := g.2.2.2.2.2.2.2.2.2.1
      have he : (nI fr = (1 : Int32)) = (fr = 1) := by rw [x_c1]; exact propext (nI_eq (by omega) (by omega))
      refine ⟨M, s, ?_⟩
      rw [am_b118_16, if_neg (by rw [x_lt (by omega) (by omega)]; omega)]
      simp only [he]
      by_cases h1 : fr = 1
      · obtain ⟨f, f1, f2, f3, f4⟩ := r3 h1
        left
        rw [if_pos h1]
        obtain rfl : j = m := by omega
        exact ⟨f, by rw [f2], piv, T, R, g, SM, hp, hcl, heq, f1, f3, f4⟩
      · right
        rw [if_neg h1]
        refine ⟨rfl, fun v hv => ?_⟩
        obtain ⟨f1, f2, a1, a2, a3, a4, a5⟩ := r4 (by omega)
        exact g.many a1 a2 a3 a4 a5 (v := v) (fun w hw => hv w ((heq w).1 hw))
    | succ e ih =>
      intro c hc M j fr free piv T R s g SM hp hcl heq hfr
      have hcd : c < 2 * A.1.1 := by omega
      have IM := s.I I
      have mM := IM.1
      have cM : am_I M 21 0 = nI A.1.1 := IM.c
      have hjm : j ≤ m := g.2.2.2.2.2.2.2.2.2.1
      obtain ⟨r1, r2, r3, r4⟩ := id hfr
      rw [am_b118_16, if_pos (by rw [x_lt (by omega) (by omega)]; omega)]
      -- where the column is not 0
      have find : ∀ d a, a + d = m → j ≤ a → (∀ i, j ≤ i → i < a → T i c = 0) → ∃ a', j ≤ a' ∧ a' ≤ m ∧ (∀ i, j ≤ i → i < a' → T i c = 0) ∧ (a' < m → T a' c ≠ 0) ∧ am_ev 118 25 [.ref 20, .int (nI (2 * A.1.1)), .int (nI j), .int free, .int (nI fr), .int (nI c), .int (nI a)] [] M = am_ev 118 52 [.ref 20, .int (nI (2 * A.1.1)), .int (nI j), .int free, .int (nI fr), .int (nI c), .int (nI a')] [] M := by
        intro d
        induction d with
        | zero =>
          intro a ha hja hz
          refine ⟨a, hja, by omega, hz, fun z => by omega, ?_⟩
          rw [am_b118_25, x_c1, x_sub (by omega), if_neg (by rw [x_lt (by omega) (by omega)]; omega)]
        | succ d ih =>
          intro a ha hja hz
          rw [am_b118_25, x_c1, x_sub (by omega), if_pos (by rw [x_lt (by omega) (by omega)]; omega), if_pos mM.k, m_get mM (by omega) (by omega), x_bJ]
          simp only [lg_cmp_eq]
          have ev := SM a (by omega) c hcd
          by_cases h0 : am_J M 28 (6 * a + c) = 0
          · rw [if_pos h0, nI_add]
            exact ih (a + 1) (by omega) (by omega) (fun i hi1 hi2 => by
              by_cases ei : i = a
              · rw [ei, ← ev, h0]; rfl
              · exact hz i hi1 (by omega))
          · rw [if_neg h0]
            refine ⟨a, hja, by omega, hz, fun _ z => h0 (Int64.toInt_inj.1 (by rw [ev, z]; rfl)), rfl⟩
      obtain ⟨a, q1, q2, q3, q4, q5⟩ := find (m - j) j (by omega) (Nat.le_refl _) (fun i h1 h2 => by omega)
      rw [q5, am_b118_52, x_c1, x_sub (by omega)]
      by_cases ham : a < m
      · rw [if_pos (by rw [x_lt (by omega) (by omega)]; omega), if_pos mM.k]
        have hjm' : j < m := by omega
        obtain ⟨h1, e1, f1, S1⟩ := m_exch mM hm5 h6 hjm' ham SM
        have s1 : mSc M h1 := mSc.of f1 (fun b z => by omega)
        have g1 := g.swap hjm' ham q1
        have hcl1 : ∀ k, k < 2 * A.1.1 → z_sum m (fun i => ((z_ex R j a i k).natAbs : Int)) ≤ 55 := fun k hk => by
          have e9 := z_sum_ex (f := fun i => ((R i k).natAbs : Int)) hjm' ham
          have e10 : z_sum m (fun i => ((z_ex R j a i k).natAbs : Int)) = z_sum m (z_ex (fun i => ((R i k).natAbs : Int)) j a) := z_sum_congr (fun i _ => by
            unfold z_ex
            by_cases y1 : i = j
            · rw [if_pos y1, if_pos y1]
            · rw [if_neg y1, if_neg y1]
              by_cases y2 : i = a
              · rw [if_pos y2, if_pos y2]
              · rw [if_neg y2, if_neg y2])
          rw [e10, e9]
          exact hcl k hk
        have heq1 : ∀ w, (∀ i, i < m → z_dot (2 * A.1.1) (z_ex R j a i) w = 0) ↔ ∀ i, i < m → z_dot (2 * A.1.1) (R0 i) w = 0 := fun w => by
          rw [z_ex_all R hjm' ham (fun r => z_dot (2 * A.1.1) r w = 0)]
          exact heq w
        have bn1 := g1.bnd hm5 hcl1
        have m1 := s1.L mM
        have c1 := s1.c cM
        obtain ⟨h2, T2, e2, f2, S2, o2, ⟨G2, hG2, eG2⟩, z2⟩ := m_shorten m1 c1 h3 hm5 hjm' S1 (fun k hk => by have := bn1 j hjm' k hk; omega)
        have s2 : mSc h1 h2 := mSc.of f2 (fun b z => by omega)
        have Tj : z_ex T j a j c ≠ 0 := by
          unfold z_ex
          rw [if_pos rfl]
          exact q4 ham
        have T2j : T2 j c ≠ 0 := fun z => by
          have := eG2 c hcd
          rw [z, Int.mul_zero] at this
          exact Tj this.symm
        have P2 : z_prim (2 * A.1.1) (T2 j) := by
          rcases z2 with z | z
          · exact absurd (z c hcd) T2j
          · exact z
        have g2 := g1.short hG2 eG2 P2 o2
        have bn2 := g2.bnd hm5 hcl1
        have m2 := s2.L m1
        have c2 := s2.c c1
        obtain ⟨h3', T3, e3, f3, S3, o3, r3'⟩ := m_clear m2 c2 h3 hm hjm' hcd S2 bn2
        have s3 : mSc h2 h3' := mSc.of f3 (fun b z => by omega)
        have m3 := s3.L m2
        have g3 := g2.clear (T' := T3) hjm' hcd T2j (fun k _ => by rw [o3]) (by rw [o3]; exact P2) (fun r hr hne => by
          rcases r3' r hr hne with ⟨t0, t1⟩ | ⟨t0, ⟨G, hG, eG⟩, t2⟩
          · refine ⟨1, 1, 0, by omega, by omega, fun k _ => by rw [t1]; omega, by rw [t1]; exact t0, ?_⟩
            rw [t1]
            exact g2.2.2.2.2.2.2.2.2.1 r hr
          · refine ⟨G, T2 j c, T2 r c, by omega, T2j, fun k hk => by rw [eG k hk, Int.mul_comm (T2 r k), Int.mul_comm (T2 j k)], ?_, ?_⟩
            · have := eG c hcd
              rw [Int.mul_comm (T2 r c), Int.sub_self] at this
              exact (Int.mul_eq_zero.1 this).resolve_left (by omega)
            · rcases t2 with z | z
              · exact Or.inl z
              · exact Or.inr (Or.inl z))
        have s4 : mSc h3' (am_sI h3' 29 j (nI c)) := mSc.p
        have sAll : mSc M (am_sI h3' 29 j (nI c)) := s1.tr (s2.tr (s3.tr s4))
        have p3 : ∀ i, i < j → am_I h3' 29 i = nI (piv i) := fun i hi => by
          rw [f3.2.2.1 29 (by omega), f2.2.2.1 29 (by omega), f1.2.2.1 29 (by omega)]
          exact hp i hi
        obtain ⟨h5, s5, r5⟩ := ih (c + 1) (by omega) (am_sI h3' 29 j (nI c)) (j + 1) fr free (fun i => if i = j then c else piv i) T3 (z_ex R j a) (s.tr sAll) g3 S3 (fun i hi => by
          rw [am_sI_I]
          by_cases y : i = j
          · rw [y, am_ud_eq, if_pos rfl]
          · rw [am_ud_ne y, if_neg y]
            exact p3 i (by omega)) hcl1 heq1 (by
          have pne : ∀ f, f < c → (∀ i, i < j → piv i ≠ f) → ∀ i, i < j + 1 → (if i = j then c else piv i) ≠ f := fun f hf hn i hi => by
            by_cases y : i = j
            · rw [if_pos y]; omega
            · rw [if_neg y]; exact hn i (by omega)
          refine ⟨by omega, fun z k hk => ?_, fun z => ?_, fun z => ?_⟩
          · by_cases y : k = c
            · exact ⟨j, by omega, by dsimp only; rw [if_pos rfl]; exact y⟩
            · obtain ⟨i, hi, ei⟩ := r2 z k (by omega)
              exact ⟨i, by omega, by dsimp only; rw [if_neg (by omega)]; exact ei⟩
          · obtain ⟨f, y1, y2, y3, y4⟩ := r3 z
            refine ⟨f, by omega, y2, pne f y1 y3, fun k hk => ?_⟩
            by_cases y : k = c
            · exact Or.inr ⟨j, by omega, by dsimp only; rw [if_pos rfl]; exact y⟩
            · rcases y4 k (by omega) with w | ⟨i, hi, ei⟩
              · exact Or.inl w
              · exact Or.inr ⟨i, by omega, by dsimp only; rw [if_neg (by omega)]; exact ei⟩
          · obtain ⟨f1, f2, y1, y2, y3, y4, y5⟩ := r4 z
            exact ⟨f1, f2, by omega, by omega, y3, pne f1 y1 y4, pne f2 y2 y5⟩)
        refine ⟨h5, s5, ?_⟩
        rw [e1, x_bV, if_pos m1.k, e2, x_bV, if_pos m2.k, e3, x_bV, if_pos m3.k, m3.r14, x_oe, x_cl (by omega), if_pos ⟨m3.k14, fun z => z.elim (nI_pos (by omega)) (by rw [m3.l14]; omega)⟩, nI_add, nI_add]
        exact r5
      · rw [if_neg (by rw [x_lt (by omega) (by omega)]; omega), nI_add, nI_add]
        refine ih (c + 1) (by omega) M j (fr + 1) (nI c) piv T R s (g.free hcd (fun i h1 h2 => q3 i h1 (by omega))) SM hp hcl heq ?_
        have pc := g.1
        refine ⟨by omega, fun z => by omega, fun z => ?_, fun z => ?_⟩
        · refine ⟨c, by omega, rfl, fun i hi y => by have := pc i hi; omega, fun k hk => ?_⟩
          by_cases y : k = c
          · exact Or.inl y
          · exact Or.inr (r2 (by omega) k (by omega))
        · by_cases y : fr = 1
          · obtain ⟨f, y1, y2, y3, y4⟩ := r3 y
            exact ⟨f, c, by omega, by omega, by omega, y3, fun i hi w => by have := pc i hi; omega⟩
          · obtain ⟨f1, f2, y1, y2, y3, y4, y5⟩ := r4 (by omega)
            exact ⟨f1, f2, by omega, by omega, y3, y4, y5⟩
  have g0 : gI (2 * A.1.1) m 0 0 (fun _ => 0) R0 R0 := ⟨fun i hi => by omega, fun i i' _ h2 => by omega, fun i hi => by omega, fun i l _ hl => by omega, fun i _ _ k hk => by omega, fun i hi => ⟨1, 1, fun _ => 0, by omega, fun _ => by omega, fun k _ => by show 1 * R0 i k = 1 * R0 i k + 0; omega⟩, fun μ _ l hl => by omega, fun w => Iff.rfl, fun i hi => Or.inr (Or.inr (hsm i hi)), by omega, by omega⟩
  obtain ⟨h1, s1, r⟩ := key (2 * A.1.1) 0 (by omega) h 0 0 (-6) (fun _ => 0) R0 R0 mSc.rf g0 hS (fun i hi => by omega) hcol (fun w => Iff.rfl) ⟨by omega, fun _ k hk => by omega, fun z => by omega, fun z => by omega⟩
  rw [nI_0] at r
  refine ⟨h1, s1, ?_⟩
  rw [am_b118_0, if_pos I.1.k, m_cells I.1 I.c, x_bI]
  exact r
end solve
