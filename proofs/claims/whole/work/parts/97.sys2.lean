/-! ===== the Model: rows exchanged, a cell cleared, the system laid ===== -/
section sys2
variable {h : AH}
theorem m_exch {m d a b : Nat} {T : Nat → Nat → Int} (mm : mL h) (hm : m ≤ 5) (hd : d ≤ 6) (ha : a < m) (hb : b < m) (hS : mSy h m d T) : ∃ h1, am_ev 116 0 [.ref 20, .int (nI a), .int (nI b), am_ph, am_ph, am_ph] [] h = some (none, h1) ∧ am_fr h h1 (fun x => x = 28) ∧ mSy h1 m d (z_ex T a b) := by
  let MM : Nat → AH := fun k => am_rJ h 28 (fun x => if 6 * a ≤ x ∧ x < 6 * a + k then am_J h 28 (6 * b + (x - 6 * a)) else if 6 * b ≤ x ∧ x < 6 * b + k then am_J h 28 (6 * a + (x - 6 * b)) else am_J h 28 x)
  have hM0 : MM 0 = h := am_rJ_id (by funext x; rw [if_neg (by omega), if_neg (by omega)])
  have hMJ : ∀ k, am_J (MM k) 28 = fun x => if 6 * a ≤ x ∧ x < 6 * a + k then am_J h 28 (6 * b + (x - 6 * a)) else if 6 * b ≤ x ∧ x < 6 * b + k then am_J h 28 (6 * a + (x - 6 * b)) else am_J h 28 x := fun k => am_rJ_J
  have hMs : ∀ k, k < 6 → am_sJ (am_sJ (MM k) 28 (6 * a + k) (am_J (MM k) 28 (6 * b + k))) 28 (6 * b + k) (am_J (MM k) 28 (6 * a + k)) = MM (k + 1) := fun k hk => by
    refine am_extJ rfl rfl (fun x y => ?_) rfl
    by_cases ex : x = 28
    · subst ex
      have va : am_J (MM k) 28 (6 * a + k) = am_J h 28 (6 * a + k) := by
        rw [hMJ]
        dsimp only
        rw [if_neg (by omega)]
        by_cases e : 6 * b ≤ 6 * a + k ∧ 6 * a + k < 6 * b + k
        · omega
        · rw [if_neg e]
      have vb : am_J (MM k) 28 (6 * b + k) = am_J h 28 (6 * b + k) := by
        rw [hMJ]
        dsimp only
        rw [if_neg (by omega), if_neg (by omega)]
      rw [am_sJ_J, am_sJ_J, va, vb, hMJ, hMJ]
      dsimp only
      by_cases e0 : y = 6 * b + k
      · rw [e0, am_ud_eq]
        by_cases eab : a = b
        · rw [if_pos (by omega)]
          congr 1
          omega
        · rw [if_neg (by omega), if_pos (by omega)]
          congr 1
          omega
      · rw [am_ud_ne e0]
        by_cases e1 : y = 6 * a + k
        · rw [e1, am_ud_eq, if_pos (by omega)]
          congr 1
          omega
        · rw [am_ud_ne e1]
          by_cases e2 : 6 * a ≤ y ∧ y < 6 * a + k
          · rw [if_pos e2, if_pos (by omega)]
          · rw [if_neg e2, if_neg (show ¬ (6 * a ≤ y ∧ y < 6 * a + (k + 1)) by omega)]
            by_cases e3 : 6 * b ≤ y ∧ y < 6 * b + k
            · rw [if_pos e3, if_pos (by omega)]
            · rw [if_neg e3, if_neg (by omega)]
    · rw [am_sJ_ne ex, am_sJ_ne ex]
      have : ∀ k, am_J (MM k) x = am_J h x := fun k => am_rJ_ne ex
      show am_J (MM k) x y = am_J (MM (k + 1)) x y
      rw [this, this]
  have hmk : ∀ k, mL (MM k) := fun k => mm.rJ
  have key : ∀ d k, k + d = 6 → am_ev 116 2 [.ref 20, .int (nI a), .int (nI b), .int (nI k), am_ph, am_ph] [] (MM k) = some (none, MM 6) := by
    intro d
    induction d with
    | zero =>
      intro k hk
      obtain rfl : k = 6 := by omega
      rw [am_b116_2, x_c6, if_neg (by rw [x_lt (by omega) (by omega)]; omega)]
    | succ d ih =>
      intro k hk
      have mk := hmk k
      have i' := ih (k + 1) (by omega)
      rw [← hMs k (by omega)] at i'
      have mj : ∀ (q : Nat) (v : Int64), mL (am_sJ (MM k) 28 q v) := fun q v => mk.sJ
      rw [am_b116_2, x_c6, if_pos (by rw [x_lt (by omega) (by omega)]; omega), if_pos mk.k, mk.r13, x_oe, pk_mul, pk_mul, nI_add, nI_add, x_cl (by omega), x_cl (by omega), if_pos ⟨mk.k13, fun z => z.elim (nI_pos (by omega)) (by rw [mk.l13]; omega)⟩, if_pos mk.k, x_oe, if_pos mk.k, x_oe, if_pos ⟨mk.k13, fun z => z.elim (nI_pos (by omega)) (by rw [mk.l13]; omega)⟩, if_pos ⟨mk.k13, fun z => z.elim (nI_pos (by omega)) (by rw [mk.l13]; omega)⟩]
      try dsimp only
      rw [if_pos (mj _ _).k, (mj _ _).r13, x_oe, if_pos ⟨(mj _ _).k13, fun z => z.elim (nI_pos (by omega)) (by rw [(mj _ _).l13]; omega)⟩, nI_1]
      exact i'
  have k0 := key 6 0 (by omega)
  rw [hM0, nI_0] at k0
  refine ⟨MM 6, by rw [am_b116_0]; exact k0, am_fr_rJ rfl, fun i hi k hk => ?_⟩
  rw [hMJ]
  dsimp only
  unfold z_ex
  by_cases e1 : i = a
  · rw [if_pos e1, e1, if_pos (by omega), show 6 * b + (6 * a + k - 6 * a) = 6 * b + k by omega]
    exact hS b hb k hk
  · rw [if_neg e1, if_neg (by omega)]
    by_cases e2 : i = b
    · rw [if_pos e2, e2, if_pos (by omega), show 6 * a + (6 * b + k - 6 * b) = 6 * a + k by omega]
      exact hS a ha k hk
    · rw [if_neg e2, if_neg (by omega)]
      exact hS i hi k hk
theorem m_clear {c m j q : Nat} {T : Nat → Nat → Int} (mm : mL h) (hc : am_I h 21 0 = nI c) (h3 : c = 2 ∨ c = 3) (hm : m + 1 = 2 * c) (hj : j < m) (hq : q < 2 * c) (hS : mSy h m (2 * c) T) (hB : ∀ i, i < m → ∀ k, k < 2 * c → (T i k).natAbs ≤ 503284375) : ∃ h1 T', am_ev 117 0 [.ref 20, .int (nI j), .int (nI q), am_ph, am_ph, am_ph, am_ph] [] h = some (none, h1) ∧ am_fr h h1 (fun x => x = 28) ∧ mSy h1 m (2 * c) T' ∧ T' j = T j ∧ ∀ r, r < m → r ≠ j → (T r q = 0 ∧ T' r = T r) ∨ T r q ≠ 0 ∧ (∃ G : Int, 0 < G ∧ ∀ k, k < 2 * c → G * T' r k = T r k * T j q - T j k * T r q) ∧ ((∀ k, k < 2 * c → T' r k = 0) ∨ z_prim (2 * c) (T' r)) := by
  have h6 : 2 * c ≤ 6 := by rcases h3 with e | e <;> omega
  have hm5 : m ≤ 5 := by omega
  have key : ∀ d r, r + d = m → ∀ (M : AH) (U : Nat → Nat → Int), am_fr h M (fun x => x = 28) → mSy M m (2 * c) U → U j = T j → (∀ i, r ≤ i → U i = T i) → (∀ i, i < r → i ≠ j → (T i q = 0 ∧ U i = T i) ∨ T i q ≠ 0 ∧ (∃ G : Int, 0 < G ∧ ∀ k, k < 2 * c → G * U i k = T i k * T j q - T j k * T i q) ∧ ((∀ k, k < 2 * c → U i k = 0) ∨ z_prim (2 * c) (U i))) → ∃ h1 T', am_ev 117 2 [.ref 20, .int (nI j), .int (nI q), .int (nI r), am_ph, am_ph, am_ph] [] M = some (none, h1) ∧ am_fr h h1 (fun x => x = 28) ∧ mSy h1 m (2 * c) T' ∧ T' j = T j ∧ ∀ i, i < m → i ≠ j → (T i q = 0 ∧ T' i = T i) ∨ T i q ≠ 0 ∧ (∃ G : Int, 0 < G ∧ ∀ k, k < 2 * c → G * T' i k = T i k * T j q - T j k * T i q) ∧ ((∀ k, k < 2 * c → T' i k = 0) ∨ z_prim (2 * c) (T' i)) := by
    intro d
    induction d with
    | zero =>
      intro r hr M U fM SM Uj Ur Ul
      obtain rfl : r = m := by omega
      have mM : mL M := mm.of fM.1 fM.2.1
      have cM : am_I M 21 0 = nI c := by rw [fM.2.2.1 21 (by omega)]; exact hc
      refine ⟨M, U, ?_, fM, SM, Uj, Ul⟩
      rw [am_b117_2, if_pos mM.k, m_cells mM cM, x_bI, x_c1, x_sub (by omega), if_neg (by rw [x_lt (by omega) (by omega)]; omega)]
    | succ d ih =>
      intro r hr M U fM SM Uj Ur Ul
      have hrm : r < m := by omega
      have mM : mL M := mm.of fM.1 fM.2.1
      have cM : am_I M 21 0 = nI c := by rw [fM.2.2.1 21 (by omega)]; exact hc
      have hUr : U r = T r := Ur r (Nat.le_refl _)
      rw [am_b117_2, if_pos mM.k, m_cells mM cM, x_bI, x_c1, x_sub (by omega), if_pos (by rw [x_lt (by omega) (by omega)]; omega), if_pos mM.k, m_get mM (by omega) (by omega), x_bJ]
      have hrj : (nI r = nI j) = (r = j) := propext (nI_eq (by omega) (by omega))
      simp only [hrj, lg_cmp_eq]
      rw [nI_add]
      by_cases e1 : r = j
      · rw [if_pos e1]
        exact ih (r + 1) (by omega) M U fM SM Uj (fun i hi => Ur i (by omega)) (fun i hi hne => Ul i (by omega) hne)
      · rw [if_neg e1]
        have erq : (am_J M 28 (6 * r + q)).toInt = T r q := by rw [SM r hrm q hq, hUr]
        by_cases e2 : am_J M 28 (6 * r + q) = 0
        · have t0 : T r q = 0 := by rw [← erq, e2]; rfl
          rw [if_pos e2]
          exact ih (r + 1) (by omega) M U fM SM Uj (fun i hi => Ur i (by omega)) (fun i hi hne => by
            by_cases e : i = r
            · rw [e]; exact Or.inl ⟨t0, hUr⟩
            · exact Ul i (by omega) hne)
        · have t0 : T r q ≠ 0 := fun z => e2 (Int64.toInt_inj.1 (by rw [erq, z]; rfl))
          rw [if_neg e2]
          let F : Nat → Int64 := fun k => am_J M 28 (6 * r + k) * am_J M 28 (6 * j + q) - am_J M 28 (6 * j + k) * am_J M 28 (6 * r + q)
          have hF : ∀ k, k < 2 * c → (F k).toInt = T r k * T j q - T j k * T r q ∧ -9223372036854775808 < (F k).toInt := fun k hk => by
            have v1 : (am_J M 28 (6 * r + k)).toInt = T r k := by rw [SM r hrm k hk, hUr]
            have v2 : (am_J M 28 (6 * j + q)).toInt = T j q := by rw [SM j hj q hq, Uj]
            have v3 : (am_J M 28 (6 * j + k)).toInt = T j k := by rw [SM j hj k hk, Uj]
            have mulb : ∀ a b : Int, a.natAbs ≤ 503284375 → b.natAbs ≤ 503284375 → -253295162119140625 ≤ a * b ∧ a * b ≤ 253295162119140625 := fun a b ha hb => by
              have := Nat.mul_le_mul ha hb
              rw [← Int.natAbs_mul] at this
              omega
            have p1 := mulb _ _ (hB r hrm k hk) (hB j hj q hq)
            have p2 := mulb _ _ (hB j hj k hk) (hB r hrm q hq)
            have m1 : (am_J M 28 (6 * r + k) * am_J M 28 (6 * j + q)).toInt = T r k * T j q := by rw [y_mul (by rw [v1, v2]; omega) (by rw [v1, v2]; omega), v1, v2]
            have m2 : (am_J M 28 (6 * j + k) * am_J M 28 (6 * r + q)).toInt = T j k * T r q := by rw [y_mul (by rw [v3, erq]; omega) (by rw [v3, erq]; omega), v3, erq]
            have m3 : (F k).toInt = T r k * T j q - T j k * T r q := by
              show (am_J M 28 (6 * r + k) * am_J M 28 (6 * j + q) - am_J M 28 (6 * j + k) * am_J M 28 (6 * r + q)).toInt = _
              rw [y_sub (by rw [m1, m2]; omega) (by rw [m1, m2]; omega), m1, m2]
            exact ⟨m3, by rw [m3]; omega⟩
          have key2 : ∀ d k, k + d = 2 * c → am_ev 117 35 [.ref 20, .int (nI j), .int (nI q), .int (nI r), .long (am_J M 28 (6 * r + q)), am_ph, .int (nI k)] [] (am_fj M 28 (6 * r) k F) = am_bV (am_ev 115 0 [.ref 20, .int (nI r), am_ph, am_ph, am_ph] [] (am_fj M 28 (6 * r) (2 * c) F)) (fun h17 => am_ev 117 2 [.ref 20, .int (nI j), .int (nI q), .int (nI (r + 1)), am_ph, am_ph, am_ph] [] h17) := by
            intro d
            induction d with
            | zero =>
              intro k hk
              obtain rfl : k = 2 * c := by omega
              have m2 : mL (am_fj M 28 (6 * r) (2 * c) F) := mM.rJ
              have c2 : am_I (am_fj M 28 (6 * r) (2 * c) F) 21 0 = nI c := cM
              rw [am_b117_35, if_pos m2.k, m_cells m2 c2, x_bI, if_neg (by rw [x_lt (by omega) (by omega)]; omega), if_pos m2.k, nI_1]
            | succ d ih =>
              intro k hk
              have m2 : mL (am_fj M 28 (6 * r) k F) := mM.rJ
              have c2 : am_I (am_fj M 28 (6 * r) k F) 21 0 = nI c := cM
              have i' := ih (k + 1) (by omega)
              rw [← am_fj_s] at i'
              have e0 : am_J (am_fj M 28 (6 * r) k F) 28 (6 * r + k) = am_J M 28 (6 * r + k) := by
                rw [am_fj_J]; dsimp only; rw [if_neg (by omega)]
              have ej : ∀ x, x < 6 → am_J (am_fj M 28 (6 * r) k F) 28 (6 * j + x) = am_J M 28 (6 * j + x) := fun x hx => by
                rw [am_fj_J]; dsimp only; rw [if_neg (by omega)]
              rw [am_b117_35, if_pos m2.k, m_cells m2 c2, x_bI, if_pos (by rw [x_lt (by omega) (by omega)]; omega), if_pos m2.k, m2.r13, x_oe, if_pos m2.k, m_get m2 (by omega) (by omega), x_bJ, if_pos m2.k, m_get m2 (by omega) (by omega), x_bJ, if_pos m2.k, m_get m2 (by omega) (by omega), x_bJ, x_c6, pk_mul, nI_add, x_cl (by omega), if_pos ⟨m2.k13, fun z => z.elim (nI_pos (by omega)) (by rw [m2.l13]; omega)⟩, e0, ej q (by omega), ej k (by omega), nI_1]
              exact i'
          have k0 := key2 (2 * c) 0 (by omega)
          rw [am_fj_0, nI_0] at k0
          have f2 : am_fr h (am_fj M 28 (6 * r) (2 * c) F) (fun x => x = 28) := fM.tr (am_fr_fj rfl)
          have m2 : mL (am_fj M 28 (6 * r) (2 * c) F) := mM.rJ
          have c2 : am_I (am_fj M 28 (6 * r) (2 * c) F) 21 0 = nI c := cM
          have S2 : mSy (am_fj M 28 (6 * r) (2 * c) F) m (2 * c) (fun i => if i = r then (fun k => T r k * T j q - T j k * T r q) else U i) := fun i hi k hk => by
            rw [am_fj_J]
            dsimp only
            by_cases e : i = r
            · rw [if_pos e, e, if_pos (by omega), show 6 * r + k - 6 * r = k by omega]
              exact (hF k hk).1
            · rw [if_neg e, if_neg (by omega)]
              exact SM i hi k hk
          obtain ⟨h3', U3, e3, f3, S3, o3, g3, z3⟩ := m_shorten m2 c2 h3 hm5 hrm S2 (fun k hk => by
            rw [if_pos rfl]
            have := hF k hk
            rw [this.1] at this
            exact this.2)
          rw [e3, x_bV] at k0
          obtain ⟨h4, T4, e4, r4⟩ := ih (r + 1) (by omega) h3' U3 (f2.tr f3) S3 (by rw [o3 j (by omega), if_neg (by omega)]; exact Uj) (fun i hi => by rw [o3 i (by omega), if_neg (by omega)]; exact Ur i (by omega)) (fun i hi hne => by
            by_cases e : i = r
            · right
              rw [e]
              obtain ⟨G, hG, hg⟩ := g3
              refine ⟨t0, ⟨G, hG, fun k hk => ?_⟩, z3⟩
              have := hg k hk
              rw [if_pos rfl] at this
              exact this
            · rw [o3 i e, if_neg e]
              exact Ul i (by omega) hne)
          exact ⟨h4, T4, k0.trans e4, r4⟩
  obtain ⟨h1, T', e, r⟩ := key m 0 (by omega) h T am_fr.rf hS rfl (fun _ _ => rfl) (fun i hi => by omega)
  rw [nI_0] at e
  exact ⟨h1, T', by rw [am_b117_0]; exact e, r⟩
end sys2
