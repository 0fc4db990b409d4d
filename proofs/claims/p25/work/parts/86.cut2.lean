/-! ===== the class's Extremes: from the single cells through all inequalities ===== -/
section cut2
variable {h : AH} {c t N b : Nat} {g : Nat → Nat → Int32} {E : Nat → Nat → Int64} {τ : Nat → Nat}
theorem zG.bnd (h3 : c = 2 ∨ c = 3) (hg : z_rng g) (ht : t ≤ q_nq c) {e : Nat → Int64} {n : Nat} (G : zG c g t e n) : ∀ k, k < 6 → 0 ≤ (e k).toInt ∧ (e k).toInt ≤ 136048896 := fun k hk => by
  by_cases hk2 : k < 2 * c
  · exact z_small h3 hg ht G.1 k hk2
  · rw [G.2.1 k hk (by omega)]
    decide
theorem x_sdval (h3 : c = 2 ∨ c = 3) (hg : z_rng g) {q : Nat} (hq : q < q_nq c) {e : Nat → Int64} (h0 : ∀ k, k < 6 → 2 * c ≤ k → e k = 0) (he : ∀ k, k < 6 → 0 ≤ (e k).toInt ∧ (e k).toInt ≤ 136048896) : (j_sum 6 fun k => e k * (if k < 2 * c then q_ls c g q k else 0).toInt64).toInt = z_dot (2 * c) (z_row c g (2 * c + q)) (fun k => (e k).toInt) := by
  have h6 : 2 * c ≤ 6 := by rcases h3 with e | e <;> omega
  have := x_rowdot (c := c) (e := e) (l := fun k => if k < 2 * c then q_ls c g q k else 0) h6 h0 he (fun k hk => by
    by_cases hk2 : k < 2 * c
    · rw [if_pos hk2]
      have := q_ls_toInt h3 hg hq hk2
      revert this
      split <;> omega
    · rw [if_neg hk2]; decide)
  rw [this.1]
  exact z_sum_congr (fun k hk => by
    unfold z_row
    dsimp only
    rw [if_pos hk, if_neg (by omega), show 2 * c + q - 2 * c = q by omega])
theorem x_cut72 (h3 : c = 2 ∨ c = 3) (ht : t < q_nq c) (hb : b ≤ 1) (hg : z_rng g) (S : zS c g t N E τ) : ∀ (d a : Nat) (M : AH) (N' : Nat) (E' : Nat → Nat → Int64) (τ' : Nat → Nat), a + d = N → xI c g t b N E τ a 0 M N' E' τ' → ∃ M1 N1 E1 τ1, am_ev 13 72 [.ref 6, am_ph, am_ph, .int (nI (2 ^ (6 + t))), .int (nI a)] [] M = am_bV (am_ev 23 0 [.ref 6, am_ph, am_ph] [] M1) (fun h4 => some (none, h4)) ∧ am_fr M M1 (xQ b) ∧ xI c g t b N E τ N 0 M1 N1 E1 τ1 := by
  intro d
  induction d with
  | zero =>
    intro a M N' E' τ' ha I
    obtain rfl : a = N := by omega
    have X := I.1
    have hN := X.2.2.1
    refine ⟨M, N', E', τ', ?_, am_fr.rf, I⟩
    rw [am_b13_72, if_pos X.1.k, X.2.1, if_neg (by rw [x_lt (by omega) (by omega)]; omega), if_pos X.1.k]
  | succ d ih =>
    intro a M N' E' τ' ha I
    have X := I.1
    have hN := X.2.2.1
    have haN : a < N := by omega
    rw [am_b13_72, if_pos X.1.k, X.2.1, if_pos (by rw [x_lt (by omega) (by omega)]; exact haN), if_pos X.1.k, x_slackAt X.1 (by omega), x_bJ]
    simp only [lg_cmp_gt, y_lt, I.2.2.1 a haN]
    rw [show (0 : Int64).toInt = 0 from rfl, nI_1]
    by_cases h1 : 0 < xsd c g t E a
    · obtain ⟨M1, N1, E1, τ1, e1, f1, I1⟩ := x_cut14 h3 ht hb hg S haN h1 N 0 M N' E' τ' (by omega) I
      obtain ⟨M2, N2, E2, τ2, e2, f2, I2⟩ := ih (a + 1) M1 N1 E1 τ1 (by omega) (I1.next (fun x y _ hy h => by unfold xlt at h ⊢; omega) (fun x y _ hy h _ => by unfold xlt at h ⊢; omega))
      rw [nI_0] at e1
      refine ⟨M2, N2, E2, τ2, ?_, f1.tr f2, I2⟩
      rw [if_pos h1, if_pos X.1.k, am_b14_0, e1, x_bV]
      exact e2
    · obtain ⟨M2, N2, E2, τ2, e2, f2, I2⟩ := ih (a + 1) M N' E' τ' (by omega) (I.next (fun x y _ hy h => by unfold xlt at h ⊢; omega) (fun x y _ hy h hadj => by
        unfold xlt at h ⊢
        by_cases e : x = a
        · rw [e] at hadj; exact absurd hadj.1 h1
        · omega))
      refine ⟨M2, N2, E2, τ2, ?_, f2, I2⟩
      rw [if_neg h1]
      exact e2
theorem x_cutWith (h3 : c = 2 ∨ c = 3) (ht : t < q_nq c) (hg : z_rng g) (S : zS c g t N E τ) (X : xC h b N E τ) (St : sS h 2 c) (hG : ∀ p, p < 2 → ∀ k, k < 6 → sG h 2 p k = g p k) : ∃ h1 N1 E1 τ1, am_ev 13 0 [.ref 6, .ref 2, .int (nI t), am_ph, am_ph] [] h = some (none, h1) ∧ xF h h1 ∧ xC h1 (1 - b) N1 E1 τ1 ∧ zS c g (t + 1) N1 E1 τ1 := by
  have hb := X.1.1
  have h8 := q_nq_le h3
  have u := z_row_unit (c := c) (t := t) (g := g)
  obtain ⟨h1, e1, f1, s1⟩ := x_slacks X St ht
  have X1 := X.fr' f1 (fun a z => by unfold xR at z; omega)
  have f2 : am_fr h1 (am_sI h1 6 1 0) (fun a => a = 6) := am_sI_fr rfl
  have X2 : xC (am_sI h1 6 1 0) b N E τ := by
    obtain ⟨m, x1, x2, x3, x4⟩ := X1
    exact ⟨m.fr f2, by rw [am_sI_I, am_ud_ne (by omega)]; exact x1, x2, x3, fun i hi => by rw [am_sI_ne (by omega)]; exact x4 i hi⟩
  have hs : ∀ i, i < N → (am_J (am_sI h1 6 1 0) 11 i).toInt = xsd c g t E i := fun i hi => by
    have Gi := S.1.1 i hi
    show (am_J h1 11 i).toInt = _
    rw [s1 i hi, j_sum_congr (g := fun k => E i k * (if k < 2 * c then q_ls c g t k else 0).toInt64) (fun k hk => by
      by_cases hk2 : k < 2 * c
      · rw [if_pos hk2, if_pos hk2, q_ls_congr h3 ht hk2 hG]
      · rw [if_neg hk2, if_neg hk2])]
    exact x_sdval h3 hg ht Gi.2.1 (Gi.bnd h3 hg (by omega))
  obtain ⟨M1, N1, E1, τ1, e2, f3, I1⟩ := x_cut21 h3 ht hb S N 0 (am_sI h1 6 1 0) 0 E τ (by omega) X2 ⟨by rw [am_sI_I, am_ud_eq, nI_0], by omega, fun i hi => by omega, fun i hi => by omega⟩ hs ⟨fun i hi => by omega, fun i j _ hj => by omega⟩ (fun i hi => by omega) (fun i hi => by omega)
  obtain ⟨M2, N2, E2, τ2, e3, f4, I2⟩ := x_cut72 h3 ht hb hg S N 0 M1 N1 E1 τ1 (by omega) I1
  rw [nI_0] at e2 e3
  obtain ⟨X5, Y5, hs5, P5, i5, i6, i7⟩ := I2
  obtain ⟨h3', e4, X6, f6⟩ := x_turn X5.1 Y5
  refine ⟨h3', N2, E2, τ2, ?_, (xF.of f1 (fun a z => by unfold xR at z; omega)).tr ((xF.of f2 (fun a z => by omega)).tr ((xF.of f3 (xQ_rng hb)).tr ((xF.of f4 (xQ_rng hb)).tr f6))), X6, P5, fun v hv => ?_⟩
  · rw [am_b13_0, if_pos X.1.k, e1, x_bV, if_pos X1.1.k, x_cut (by omega)]
    exact e2.trans (e3.trans (by rw [e4, x_bV]))
  · rcases dd_complete u hv with hv2 | ⟨x, y, hx, hy, sx, sy, adj, G, hG', eG⟩
    · obtain ⟨i, hi, ei⟩ := S.2 v hv2
      have h0 : 0 ≤ xsd c g t E i := by
        unfold xsd
        rw [z_dot_congr ei]
        exact hv.1 _ (by omega)
      obtain ⟨i', hi', e'⟩ := i5 i hi h0
      exact ⟨i', hi', fun k hk => by rw [e']; exact ei k hk⟩
    · obtain ⟨i, hi, ei⟩ := S.2 x hx
      obtain ⟨j, hj, ej⟩ := S.2 y hy
      have dx : ∀ q, z_dot (2 * c) (z_row c g q) (fun k => (E i k).toInt) = z_dot (2 * c) (z_row c g q) x := fun q => z_dot_congr ei
      have dy : ∀ q, z_dot (2 * c) (z_row c g q) (fun k => (E j k).toInt) = z_dot (2 * c) (z_row c g q) y := fun q => z_dot_congr ej
      have hadj : xadj c g t E i j := by
        refine ⟨by unfold xsd; rw [dx]; exact sx, by unfold xsd; rw [dy]; exact sy, fun s hs hc => ?_⟩
        rcases adj s hs (fun r hr a1 a2 => hc r hr (by rw [dx]; exact a1) (by rw [dy]; exact a2)) with z | z
        · exact Or.inl (fun k hk => by rw [z k hk]; exact (ei k hk).symm)
        · exact Or.inr (fun k hk => by rw [z k hk]; exact (ej k hk).symm)
      obtain ⟨i', hi', G2, hG2, eG2⟩ := i6 i j hi hj (by unfold xlt; omega) hadj
      refine ⟨i', hi', fun k hk => ?_⟩
      have Gi := P5.1 i' hi'
      refine (z_prim_eq (a := G) (b := G2) Gi.1.2.1 hv.2.1 (Gi.1.1.nn z_row_unit) (hv.1.nn z_row_unit) (by omega) (fun k hk => ?_) k hk)
      rw [eG k hk, eG2 k hk]
      unfold xsd
      rw [dx, dy, ei k hk, ej k hk]
/-- the single cells -/
def z_E0 (i k : Nat) : Int64 := if k = i then 1 else 0
theorem z_E0_int (i k : Nat) : (z_E0 i k).toInt = if k = i then 1 else 0 := by
  unfold z_E0
  split <;> rfl
theorem z_S0 (h3 : c = 2 ∨ c = 3) : zS c g 0 (2 * c) z_E0 (fun i => 2 ^ (2 * c) - 1 - 2 ^ i) := by
  have u := z_row_unit (c := c) (t := 0) (g := g)
  have hdot : ∀ r, r < 2 * c → ∀ i, z_dot (2 * c) (z_row c g r) (fun k => (z_E0 i k).toInt) = if r = i then 1 else 0 := fun r hr i => by
    rw [z_dot_unit u hr, z_E0_int]
  have hext : ∀ i, i < 2 * c → z_ext (2 * c) (2 * c + 0) (z_row c g) (fun k => (z_E0 i k).toInt) := fun i hi => by
    refine ⟨fun r hr => ?_, ⟨⟨i, hi, by show (z_E0 i i).toInt ≠ 0; rw [z_E0_int, if_pos rfl]; omega⟩, fun p hp => ?_⟩, fun w hw => ⟨1, w i, by omega, fun k hk => ?_⟩⟩
    · rw [hdot r (by omega)]
      split <;> omega
    · have : p ∣ (z_E0 i i).toInt := hp i hi
      rw [z_E0_int, if_pos rfl] at this
      exact this
    · show 1 * w k = w i * (z_E0 i k).toInt
      rw [z_E0_int]
      by_cases e : k = i
      · rw [if_pos e, e]; simp
      · rw [if_neg e]
        have := hw k (by omega) (by rw [hdot k hk, if_neg e])
        rw [z_dot_unit u hk] at this
        rw [this]; simp
  refine ⟨⟨fun i hi => ⟨hext i hi, fun k hk hk2 => by unfold z_E0; rw [if_neg (by omega)], ?_⟩, fun i j hij hj => ⟨i, by omega, by rw [z_E0_int, z_E0_int, if_pos rfl, if_neg (by omega)]; omega⟩⟩, fun v hv => ?_⟩
  · have hdec : ∀ c, c = 2 ∨ c = 3 → ∀ i, i < 2 * c → 2 ^ (2 * c) - 1 - 2 ^ i < 2 ^ 6 ∧ ∀ r, r < 6 → ((2 ^ (2 * c) - 1 - 2 ^ i).testBit r = decide (r < 2 * c ∧ r ≠ i)) := by
      rintro c (rfl | rfl) <;> decide
    obtain ⟨d1, d2⟩ := hdec c h3 i hi
    refine ⟨Nat.lt_trans d1 (by decide), fun r => ?_⟩
    dsimp only
    by_cases hr : r < 6
    · rw [d2 r hr, decide_eq_true_eq]
      constructor
      · rintro ⟨z1, z2⟩
        exact Or.inl ⟨z1, by rw [z_E0_int, if_neg z2]⟩
      · rintro (⟨z1, z2⟩ | ⟨q, z1, z2, z3⟩)
        · refine ⟨z1, fun z => ?_⟩
          rw [z_E0_int, if_pos z] at z2
          omega
        · omega
    · rw [Nat.testBit_lt_two_pow (Nat.lt_of_lt_of_le d1 (Nat.pow_le_pow_right (by omega) (by omega)))]
      constructor
      · intro z; exact absurd z (by simp)
      · rintro (⟨z1, z2⟩ | ⟨q, z1, z2, z3⟩)
        · rcases h3 with e | e <;> omega
        · omega
  · obtain ⟨i, hi, hn⟩ := hv.2.1.1
    refine ⟨i, hi, fun k hk => ?_⟩
    refine (hv.same u (hext i hi) (fun r hr h => ?_) k hk).symm
    rw [hdot r (by omega)]
    rw [z_dot_unit u (by omega)] at h
    rw [if_neg (fun z => hn (by rw [← z]; exact h))]
theorem x_single (h3 : c = 2 ∨ c = 3) (m : xL h b) : ∃ h1, am_ev 12 0 [.ref 6, .int (nI (2 * c)), am_ph, am_ph, am_ph, am_ph] [] h = some (none, h1) ∧ xF h h1 ∧ xC h1 (1 - b) (2 * c) z_E0 (fun i => 2 ^ (2 * c) - 1 - 2 ^ i) := by
  have hb := m.1
  have h6 : 2 * c ≤ 6 := by rcases h3 with e | e <;> omega
  have h4 : 4 ≤ 2 * c := by rcases h3 with e | e <;> omega
  have hall : ∀ c, c = 2 ∨ c = 3 → ((1 : Int32) <<< (nI (2 * c) &&& 31)) - (1 : Int32) = nI (2 ^ (2 * c) - 1) := by
    rintro c (rfl | rfl) <;> decide
  have hone : ∀ c, c = 2 ∨ c = 3 → ∀ i, i < 2 * c → nI (2 ^ (2 * c) - 1) &&& (((1 : Int32) <<< (nI i &&& 31)) ^^^ (-1 : Int32)) = nI (2 ^ (2 * c) - 1 - 2 ^ i) := by
    rintro c (rfl | rfl) <;> decide
  have key : ∀ d i, i + d = 2 * c → ∀ M : AH, xL M b → xN M b i z_E0 (fun i => 2 ^ (2 * c) - 1 - 2 ^ i) → ∃ M1, am_ev 12 13 [.ref 6, .int (nI (2 * c)), .int (nI (2 ^ (2 * c) - 1)), .int (nI i), am_ph, am_ph] [] M = am_bV (am_ev 23 0 [.ref 6, am_ph, am_ph] [] M1) (fun h3 => some (none, h3)) ∧ am_fr M M1 (xQ b) ∧ xL M1 b ∧ xN M1 b (2 * c) z_E0 (fun i => 2 ^ (2 * c) - 1 - 2 ^ i) := by
    intro d
    induction d with
    | zero =>
      intro i hi M mM Y
      obtain rfl : i = 2 * c := by omega
      refine ⟨M, ?_, am_fr.rf, mM, Y⟩
      rw [am_b12_13, if_neg (by rw [x_lt (by omega) (by omega)]; omega), if_pos mM.k]
    | succ d ih =>
      intro i hi M mM Y
      have in1 : ∀ d j, j + d = 6 → am_ev 12 27 [.ref 6, .int (nI (2 * c)), .int (nI (2 ^ (2 * c) - 1)), .int (nI i), .int (nI (6 * i)), .int (nI j)] [] (am_fj M (8 - b) (6 * i) j (z_E0 i)) = am_ev 12 13 [.ref 6, .int (nI (2 * c)), .int (nI (2 ^ (2 * c) - 1)), .int (nI (i + 1)), am_ph, am_ph] [] (xp M b i (z_E0 i) (nI (2 ^ (2 * c) - 1 - 2 ^ i))) := by
        intro d
        induction d with
        | zero =>
          intro j hj
          have f : am_fr M (am_fj M (8 - b) (6 * i) j (z_E0 i)) (xQ b) := am_fr_fj (Or.inl rfl)
          have m2 := mM.fr f
          rw [am_b12_27, x_c6, if_neg (by rw [x_lt (by omega) (by omega)]; omega), if_pos m2.k, hone c h3 i (by omega), x_finish m2 (show i < 128 by omega) (show am_I (am_fj M (8 - b) (6 * i) j (z_E0 i)) 6 1 = nI i from Y.1), x_bV, nI_1, show j = 6 by omega]
          rfl
        | succ d ih =>
          intro j hj
          have f : am_fr M (am_fj M (8 - b) (6 * i) j (z_E0 i)) (xQ b) := am_fr_fj (Or.inl rfl)
          have m2 := mM.fr f
          have i' := ih (j + 1) (by omega)
          rw [← am_fj_s] at i'
          have hji : (nI j = nI i) = (j = i) := propext (nI_eq (by omega) (by omega))
          rw [am_b12_27, x_c6, if_pos (by rw [x_lt (by omega) (by omega)]; omega)]
          simp only [hji]
          by_cases e : j = i
          · have ez : z_E0 i j = 1 := if_pos e
            rw [ez] at i'
            rw [if_pos e, if_pos m2.k, nI_add, x_setNext m2 (by omega), x_bV, nI_1]
            exact i'
          · have ez : z_E0 i j = 0 := if_neg e
            rw [ez] at i'
            rw [if_neg e, if_pos m2.k, nI_add, x_setNext m2 (by omega), x_bV, nI_1]
            exact i'
      have Y2 := Y.push hb (by omega) (z_E0 i) (2 ^ (2 * c) - 1 - 2 ^ i)
      have Y3 : xN (xp M b i (z_E0 i) (nI (2 ^ (2 * c) - 1 - 2 ^ i))) b (i + 1) z_E0 (fun i => 2 ^ (2 * c) - 1 - 2 ^ i) := by
        obtain ⟨y1, y2, y3, y4⟩ := Y2
        refine ⟨y1, y2, fun i' hi' k hk => ?_, fun i' hi' => ?_⟩
        · rw [y3 i' hi' k hk]
          dsimp only
          by_cases e : i' = i
          · rw [if_pos e, e]
          · rw [if_neg e]
        · rw [y4 i' hi']
          dsimp only
          by_cases e : i' = i
          · rw [if_pos e, e]
          · rw [if_neg e]
      obtain ⟨M1, e1, f1, r1, r2⟩ := ih (i + 1) (by omega) _ (mM.fr xp_fr) Y3
      refine ⟨M1, ?_, xp_fr.tr f1, r1, r2⟩
      have e2 := in1 6 0 (by omega)
      rw [am_fj_0, nI_0] at e2
      rw [am_b12_13, if_pos (by rw [x_lt (by omega) (by omega)]; omega), if_pos mM.k, x_start mM Y.1, x_bI]
      exact e2.trans e1
  have f2 : am_fr h (am_sI h 6 1 0) (fun a => a = 6) := am_sI_fr rfl
  obtain ⟨M1, e1, f1, m1, Y1⟩ := key (2 * c) 0 (by omega) (am_sI h 6 1 0) (m.fr f2) ⟨by rw [am_sI_I, am_ud_eq, nI_0], by omega, fun i hi => by omega, fun i hi => by omega⟩
  obtain ⟨h1, e2, X1, f3⟩ := x_turn m1 Y1
  refine ⟨h1, ?_, (xF.of f2 (fun a z => by omega)).tr ((xF.of f1 (xQ_rng hb)).tr f3), X1⟩
  rw [nI_0] at e1
  rw [am_b12_0, if_pos m.k, hall c h3]
  exact e1.trans (by rw [e2, x_bV])
end cut2
