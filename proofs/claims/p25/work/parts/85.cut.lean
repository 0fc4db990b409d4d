/-! ===== the class's Extremes: one inequality more ===== -/
theorem z_gcd_more {n : Nat} {v : Nat → Int} : ∀ r, (∀ k, k < r → v (n + k) = 0) → z_gcd (n + r) v = z_gcd n v := by
  intro r
  induction r with
  | zero => intro _; rfl
  | succ r ih =>
    intro h
    rw [← Nat.add_assoc, z_gcd_s, ih (fun k hk => h k (by omega)), h r (by omega)]
    exact Nat.gcd_zero_right _
section cut
variable {c t N b : Nat} {g : Nat → Nat → Int32} {E : Nat → Nat → Int64} {τ : Nat → Nat}
def xsd (c : Nat) (g : Nat → Nat → Int32) (t : Nat) (E : Nat → Nat → Int64) (i : Nat) : Int := z_dot (2 * c) (z_row c g (2 * c + t)) (fun k => (E i k).toInt)
def xadj (c : Nat) (g : Nat → Nat → Int32) (t : Nat) (E : Nat → Nat → Int64) (x y : Nat) : Prop := 0 < xsd c g t E x ∧ xsd c g t E y < 0 ∧ z_adj (2 * c) (2 * c + t) (z_row c g) (fun k => (E x k).toInt) (fun k => (E y k).toInt)
def xbt (c : Nat) (g : Nat → Nat → Int32) (t : Nat) (E : Nat → Nat → Int64) (x y : Nat) (e : Nat → Int64) : Prop := ∃ G : Int, 0 < G ∧ ∀ k, k < 2 * c → G * (e k).toInt = xsd c g t E x * (E y k).toInt - xsd c g t E y * (E x k).toInt
def xlt (x y a l : Nat) : Prop := x < a ∨ x = a ∧ y < l
/-- what holds while the list is being laid, before the pair (a, l) -/
def xI (c : Nat) (g : Nat → Nat → Int32) (t b N : Nat) (E : Nat → Nat → Int64) (τ : Nat → Nat) (a l : Nat) (M : AH) (N' : Nat) (E' : Nat → Nat → Int64) (τ' : Nat → Nat) : Prop := xC M b N E τ ∧ xN M b N' E' τ' ∧ (∀ i, i < N → (am_J M 11 i).toInt = xsd c g t E i) ∧ zP c g (t + 1) N' E' τ' ∧ (∀ i, i < N → 0 ≤ xsd c g t E i → ∃ i', i' < N' ∧ E' i' = E i) ∧ (∀ x y, x < N → y < N → xlt x y a l → xadj c g t E x y → ∃ i', i' < N' ∧ xbt c g t E x y (E' i')) ∧ ∀ i', i' < N' → (∃ i, i < N ∧ E' i' = E i) ∨ ∃ x y, x < N ∧ y < N ∧ xlt x y a l ∧ xadj c g t E x y ∧ xbt c g t E x y (E' i')
theorem xp_J {M : AH} {n : Nat} {F : Nat → Int64} {v : Int32} (hb : b ≤ 1) : am_J (xp M b n F v) 11 = am_J M 11 := (xp_fr (h := M) (b := b)).2.2.2 11 (fun z => by unfold xQ at z; omega)
theorem x_cut21 (h3 : c = 2 ∨ c = 3) (ht : t < q_nq c) (hb : b ≤ 1) (S : zS c g t N E τ) : ∀ (d j : Nat) (M : AH) (N' : Nat) (E' : Nat → Nat → Int64) (τ' : Nat → Nat), j + d = N → xC M b N E τ → xN M b N' E' τ' → (∀ i, i < N → (am_J M 11 i).toInt = xsd c g t E i) → zP c g (t + 1) N' E' τ' → (∀ i', i' < N' → ∃ i, i < j ∧ E' i' = E i) → (∀ i, i < j → 0 ≤ xsd c g t E i → ∃ i', i' < N' ∧ E' i' = E i) → ∃ M1 N1 E1 τ1, am_ev 13 21 [.ref 6, am_ph, am_ph, .int (nI (2 ^ (6 + t))), .int (nI j)] [] M = am_ev 13 72 [.ref 6, am_ph, am_ph, .int (nI (2 ^ (6 + t))), .int (0 : Int32)] [] M1 ∧ am_fr M M1 (xQ b) ∧ xI c g t b N E τ 0 0 M1 N1 E1 τ1 := by
  have h8 := q_nq_le h3
  have h6 : 2 * c ≤ 6 := by rcases h3 with e | e <;> omega
  intro d
  induction d with
  | zero =>
    intro j M N' E' τ' hj X Y hs P hf hc
    have hN := X.2.2.1
    refine ⟨M, N', E', τ', ?_, am_fr.rf, X, Y, hs, P, fun i hi => hc i (by omega), fun x y _ _ h => ?_, fun i' hi' => ?_⟩
    · rw [am_b13_21, if_pos X.1.k, X.2.1, if_neg (by rw [x_lt (by omega) (by omega)]; omega)]
    · unfold xlt at h; omega
    · obtain ⟨i, hi, e⟩ := hf i' hi'
      exact Or.inl ⟨i, by omega, e⟩
  | succ d ih =>
    intro j M N' E' τ' hj X Y hs P hf hc
    have hN := X.2.2.1
    have hjN : j < N := by omega
    have hsj := hs j hjN
    have hd : ∀ i', i' < N' → ∃ k, k < 2 * c ∧ (E' i' k).toInt ≠ (E j k).toInt := fun i' hi' => by
      obtain ⟨i, hi, e⟩ := hf i' hi'
      rw [e]
      exact S.1.2 i j hi hjN
    rw [am_b13_21, if_pos X.1.k, X.2.1, if_pos (by rw [x_lt (by omega) (by omega)]; exact hjN), if_pos X.1.k, x_slackAt X.1 (by omega), x_bJ, if_pos X.1.k, x_slackAt X.1 (by omega), x_bJ]
    simp only [lg_cmp_lt, lg_cmp_eq, y_lt, y_eq, hsj]
    rw [show (0 : Int64).toInt = 0 from rfl]
    -- the vector is kept
    have keep : ∀ w : Nat, 0 ≤ xsd c g t E j → w = (if xsd c g t E j = 0 then 2 ^ (6 + t) else 0) → ∃ M1 N1 E1 τ1, am_bV (am_ev 17 0 [.ref 6, .int (nI j), .int (nI w), am_ph, am_ph] [] M) (fun h5 => am_ev 13 21 [.ref 6, am_ph, am_ph, .int (nI (2 ^ (6 + t))), .int (nI j + (1 : Int32))] [] h5) = am_ev 13 72 [.ref 6, am_ph, am_ph, .int (nI (2 ^ (6 + t))), .int (0 : Int32)] [] M1 ∧ am_fr M M1 (xQ b) ∧ xI c g t b N E τ 0 0 M1 N1 E1 τ1 := by
      intro w h0 hw
      have G := (S.1.1 j hjN).keep (w := w) (by omega) h6 h0 hw
      have P2 := P.add G hd
      have hn := P2.few h3 (by omega)
      obtain ⟨M1, N1, E1, τ1, e1, f1, r1⟩ := ih (j + 1) (xp M b N' (E j) (nI (τ j ||| w))) (N' + 1) _ _ (by omega) (X.fr xp_fr (xp_6 hb (by omega))) (Y.push hb (by omega) (E j) (τ j ||| w)) (fun i hi => by rw [xp_J hb]; exact hs i hi) P2 (fun i' hi' => by
        by_cases e : i' = N'
        · rw [if_pos e]; exact ⟨j, by omega, rfl⟩
        · rw [if_neg e]
          obtain ⟨i, hi, e2⟩ := hf i' (by omega)
          exact ⟨i, by omega, e2⟩) (fun i hi hp => by
        by_cases e : i = j
        · exact ⟨N', by omega, by rw [if_pos rfl, e]⟩
        · obtain ⟨i', hi', e2⟩ := hc i (by omega) hp
          exact ⟨i', by omega, by rw [if_neg (by omega)]; exact e2⟩)
      refine ⟨M1, N1, E1, τ1, ?_, xp_fr.tr f1, r1⟩
      rw [x_keep X Y hjN (by omega), x_bV, x_or, nI_1]
      exact e1
    by_cases h1 : xsd c g t E j < 0
    · rw [if_pos h1, nI_1]
      exact ih (j + 1) M N' E' τ' (by omega) X Y hs P (fun i' hi' => by
        obtain ⟨i, hi, e⟩ := hf i' hi'
        exact ⟨i, by omega, e⟩) (fun i hi hp => by
        by_cases e : i = j
        · rw [e] at hp; omega
        · exact hc i (by omega) hp)
    · rw [if_neg h1]
      by_cases h2 : xsd c g t E j = 0
      · rw [if_pos h2, if_pos X.1.k]
        exact keep (2 ^ (6 + t)) (by omega) (by rw [if_pos h2])
      · rw [if_neg h2, if_pos X.1.k]
        exact keep 0 (by omega) (by rw [if_neg h2])
theorem xI.next {a l : Nat} {M : AH} {N' : Nat} {E' : Nat → Nat → Int64} {τ' : Nat → Nat} (I : xI c g t b N E τ a l M N' E' τ') {a2 l2 : Nat} (h1 : ∀ x y, x < N → y < N → xlt x y a l → xlt x y a2 l2) (h2 : ∀ x y, x < N → y < N → xlt x y a2 l2 → xadj c g t E x y → xlt x y a l) : xI c g t b N E τ a2 l2 M N' E' τ' := by
  obtain ⟨i1, i2, i3, i4, i5, i6, i7⟩ := I
  refine ⟨i1, i2, i3, i4, i5, fun x y hx hy hl ha => i6 x y hx hy (h2 x y hx hy hl ha) ha, fun i' hi' => ?_⟩
  rcases i7 i' hi' with z | ⟨x, y, hx, hy, hl, z⟩
  · exact Or.inl z
  · exact Or.inr ⟨x, y, hx, hy, h1 x y hx hy hl, z⟩
theorem x_cut14 (h3 : c = 2 ∨ c = 3) (ht : t < q_nq c) (hb : b ≤ 1) (hg : z_rng g) (S : zS c g t N E τ) {a : Nat} (ha : a < N) (sa : 0 < xsd c g t E a) : ∀ (d l : Nat) (M : AH) (N' : Nat) (E' : Nat → Nat → Int64) (τ' : Nat → Nat), l + d = N → xI c g t b N E τ a l M N' E' τ' → ∃ M1 N1 E1 τ1, am_ev 14 2 [.ref 6, .int (nI a), .int (nI (2 ^ (6 + t))), .int (nI l)] [] M = some (none, M1) ∧ am_fr M M1 (xQ b) ∧ xI c g t b N E τ a N M1 N1 E1 τ1 := by
  have h8 := q_nq_le h3
  have h6 : 2 * c ≤ 6 := by rcases h3 with e | e <;> omega
  have u := z_row_unit (c := c) (t := t) (g := g)
  intro d
  induction d with
  | zero =>
    intro l M N' E' τ' hl I
    obtain rfl : l = N := by omega
    have X := I.1
    have hN := X.2.2.1
    refine ⟨M, N', E', τ', ?_, am_fr.rf, I⟩
    rw [am_b14_2, if_pos X.1.k, X.2.1, if_neg (by rw [x_lt (by omega) (by omega)]; omega)]
  | succ d ih =>
    intro l M N' E' τ' hl I
    obtain ⟨X, Y, hs, P, i5, i6, i7⟩ := id I
    have hN := X.2.2.1
    have hlN : l < N := by omega
    rw [am_b14_2, if_pos X.1.k, X.2.1, if_pos (by rw [x_lt (by omega) (by omega)]; exact hlN), if_pos X.1.k, x_slackAt X.1 (by omega), x_bJ]
    simp only [lg_cmp_lt, y_lt, hs l hlN]
    rw [show (0 : Int64).toInt = 0 from rfl]
    have skip : ¬ xadj c g t E a l → ∃ M1 N1 E1 τ1, am_ev 14 2 [.ref 6, .int (nI a), .int (nI (2 ^ (6 + t))), .int (nI l + (1 : Int32))] [] M = some (none, M1) ∧ am_fr M M1 (xQ b) ∧ xI c g t b N E τ a N M1 N1 E1 τ1 := fun hn => by
      rw [nI_1]
      refine ih (l + 1) M N' E' τ' (by omega) (I.next (fun x y _ _ h => by unfold xlt at h ⊢; omega) (fun x y _ _ h hadj => ?_))
      unfold xlt at h ⊢
      by_cases e : x = a ∧ y = l
      · rw [e.1, e.2] at hadj; exact absurd hadj hn
      · omega
    by_cases h1 : xsd c g t E l < 0
    · rw [if_pos h1, if_pos X.1.k]
      obtain ⟨v, ev, hv⟩ := x_neigh X ha hlN
      rw [ev, x_bI]
      rcases hv with ⟨v0, hv⟩ | ⟨v1, hv⟩
      · rw [if_pos v0]
        refine skip (fun z => ?_)
        obtain ⟨s, s1, s2, s3, s4⟩ := hv
        exact (S.adj h6 ha hlN).2 z.2.2 s s1 s2 s3 s4
      · rw [if_neg (by rw [v1]; decide), if_pos X.1.k]
        have adj := (S.adj h6 ha hlN).1 hv
        have Ga := S.1.1 a ha
        have Gl := S.1.1 l hlN
        have ba := z_small h3 hg (by omega) Ga.1
        have bl := z_small h3 hg (by omega) Gl.1
        have bnd : ∀ i, i < N → ∀ k, k < 6 → 0 ≤ (E i k).toInt ∧ (E i k).toInt ≤ 136048896 := fun i hi k hk => by
          by_cases hk2 : k < 2 * c
          · exact z_small h3 hg (by omega) (S.1.1 i hi).1 k hk2
          · rw [(S.1.1 i hi).2.1 k hk (by omega)]
            decide
        have sdb : ∀ i, i < N → -14693280768 ≤ xsd c g t E i ∧ xsd c g t E i ≤ 14693280768 := fun i hi => by
          have := x_rowdot (c := c) (e := E i) (l := fun k => if k < 2 * c then q_ls c g t k else 0) h6 (fun k hk hk2 => (S.1.1 i hi).2.1 k hk hk2) (bnd i hi) (fun k hk => by
            by_cases hk2 : k < 2 * c
            · rw [if_pos hk2]
              have := q_ls_toInt h3 hg ht hk2
              revert this
              split <;> omega
            · rw [if_neg hk2]; decide)
          rw [this.1] at this
          have e : z_dot (2 * c) (fun k => (if k < 2 * c then q_ls c g t k else 0).toInt) (fun k => (E i k).toInt) = xsd c g t E i := z_sum_congr (fun k hk => by
            unfold z_row
            dsimp only
            rw [if_pos hk, if_neg (by omega), show 2 * c + t - 2 * c = t by omega])
          rw [e] at this
          exact this.2
        have sba := sdb a ha
        have sbl := sdb l hlN
        have vk : ∀ k, k < 6 → (am_J M 11 a * E l k - am_J M 11 l * E a k).toInt = xsd c g t E a * (E l k).toInt - xsd c g t E l * (E a k).toInt ∧ 0 ≤ xsd c g t E a * (E l k).toInt - xsd c g t E l * (E a k).toInt := fun k hk => by
          have b1 := bnd l hlN k hk
          have b2 := bnd a ha k hk
          have p1 : 0 ≤ xsd c g t E a * (E l k).toInt ∧ xsd c g t E a * (E l k).toInt ≤ 14693280768 * 136048896 := ⟨Int.mul_nonneg (by omega) b1.1, Int.mul_le_mul sba.2 b1.2 b1.1 (by omega)⟩
          have p2 : 0 ≤ -xsd c g t E l * (E a k).toInt ∧ -xsd c g t E l * (E a k).toInt ≤ 14693280768 * 136048896 := ⟨Int.mul_nonneg (by omega) b2.1, Int.mul_le_mul (by omega) b2.2 b2.1 (by omega)⟩
          rw [Int.neg_mul] at p2
          have m1 : (am_J M 11 a * E l k).toInt = xsd c g t E a * (E l k).toInt := by rw [y_mul (by rw [hs a ha]; omega) (by rw [hs a ha]; omega), hs a ha]
          have m2 : (am_J M 11 l * E a k).toInt = xsd c g t E l * (E a k).toInt := by rw [y_mul (by rw [hs l hlN]; omega) (by rw [hs l hlN]; omega), hs l hlN]
          refine ⟨?_, by omega⟩
          rw [y_sub (by rw [m1, m2]; omega) (by rw [m1, m2]; omega), m1, m2]
        generalize hV : (fun k => (xsd c g t E a * (E l k).toInt - xsd c g t E l * (E a k).toInt).toNat) = V
        have eV : ∀ k, k < 6 → ((V k : Nat) : Int) = xsd c g t E a * (E l k).toInt - xsd c g t E l * (E a k).toInt := fun k hk => by
          rw [← hV]
          exact Int.toNat_of_nonneg (vk k hk).2
        have V0 : ∀ k, k < 6 → 2 * c ≤ k → V k = 0 := fun k hk hk2 => by
          have := eV k hk
          rw [Ga.2.1 k hk hk2, Gl.2.1 k hk hk2, show (0 : Int64).toInt = 0 from rfl, Int.mul_zero, Int.mul_zero] at this
          omega
        have Vp : ∃ k, k < 2 * c ∧ V k ≠ 0 := by
          obtain ⟨k, hk, hn⟩ := Gl.1.2.1.1
          refine ⟨k, hk, fun z => ?_⟩
          have e := eV k (by omega)
          rw [z] at e
          have b1 := bnd l hlN k (by omega)
          have b2 := bnd a ha k (by omega)
          have hn' : (E l k).toInt ≠ 0 := hn
          have p1 : 0 < xsd c g t E a * (E l k).toInt := Int.mul_pos sa (by omega)
          have p2 : 0 ≤ -xsd c g t E l * (E a k).toInt := Int.mul_nonneg (by omega) b2.1
          rw [Int.neg_mul] at p2
          have : ((0 : Nat) : Int) = 0 := rfl
          omega
        generalize hGd : z_gcd 6 (fun k => (V k : Int)) = G
        have hG : 0 < G := by
          rcases Nat.eq_zero_or_pos G with z | z
          · obtain ⟨k, hk, hn⟩ := Vp
            rw [z] at hGd
            have := z_gcd_0 hGd k (by omega)
            omega
          · exact z
        have hdv : ∀ k, k < 6 → G * (V k / G) = V k := fun k hk => by
          have := z_gcd_dvd (v := fun k => (V k : Int)) 6 k hk
          rw [hGd] at this
          exact Nat.mul_div_cancel' (Int.natCast_dvd_natCast.1 this)
        generalize hv2 : (fun k => ((V k / G : Nat) : Int)) = v2
        have ev2 : ∀ k, v2 k = ((V k / G : Nat) : Int) := fun k => by rw [← hv2]
        have evG : ∀ k, k < 6 → (G : Int) * v2 k = V k := fun k hk => by rw [ev2, ← Int.natCast_mul, hdv k hk]
        have hprim : z_prim (2 * c) v2 := by
          apply z_prim_of
          obtain ⟨r, hr⟩ : ∃ r, 6 = 2 * c + r := ⟨6 - 2 * c, by omega⟩
          have e1 : z_gcd 6 (fun k => (V k : Int)) = z_gcd (2 * c) (fun k => (V k : Int)) := by
            rw [hr]
            exact z_gcd_more r (fun k hk => by rw [V0 (2 * c + k) (by omega) (by omega)]; rfl)
          have e2 : z_gcd (2 * c) (fun k => (V k : Int)) = G * z_gcd (2 * c) v2 := by
            rw [z_gcd_congr (w := fun k => (G : Int) * v2 k) (2 * c) (fun k hk => (evG k (by omega)).symm), z_gcd_mul, Int.natAbs_natCast]
          rw [hGd, e2] at e1
          have e3 : G * 1 = G * z_gcd (2 * c) v2 := by rw [Nat.mul_one]; exact e1
          exact (Nat.eq_of_mul_eq_mul_left hG e3).symm
        have hbt : ∀ k, k < 2 * c → (G : Int) * v2 k = xsd c g t E a * (E l k).toInt - xsd c g t E l * (E a k).toInt := fun k hk => by rw [evG k (by omega), eV k (by omega)]
        have hd : ∀ i', i' < N' → ∃ k, k < 2 * c ∧ (E' i' k).toInt ≠ v2 k := fun i' hi' => Classical.byContradiction (fun hn => by
          have heq : ∀ k, k < 2 * c → (E' i' k).toInt = v2 k := fun k hk => Classical.byContradiction (fun h => hn ⟨k, hk, h⟩)
          rcases i7 i' hi' with ⟨i, hi, e⟩ | ⟨x, y, hx, hy, hl', ⟨a1, a2, a3⟩, G', hG', eG'⟩
          · obtain ⟨k, hk, hne⟩ := dd_new (v := v2) Ga.1 Gl.1 adj sa h1 (show (0 : Int) < G by omega) hbt (S.1.1 i hi).1
            rw [e] at heq
            exact hne (heq k hk)
          · have := dd_uniq (v := fun k => (E' i' k).toInt) (v' := v2) (S.1.1 x hx).1 (S.1.1 y hy).1 a3 a1 a2 hG' eG' Ga.1 Gl.1 sa h1 (show (0 : Int) < G by omega) hbt heq
            have q1 := S.1.ne ha hx this.1
            have q2 := S.1.ne hlN hy this.2
            unfold xlt at hl'
            omega)
        have hn : N' + 1 ≤ 128 := z_few (z_row_unit (t := t + 1) (g := g)) (by omega) (z_row_in h3 (by omega)) (L := fun i => if i = N' then v2 else fun k => (E' i k).toInt) (fun i hi => by
          by_cases e : i = N'
          · rw [if_pos e]
            exact dd_between u Ga.1.1 Gl.1.1 adj sa h1 (show (0 : Int) < G by omega) hprim hbt
          · rw [if_neg e]
            exact (P.1 i (by omega)).1) (fun i j hij hj => by
          rw [if_neg (show ¬ i = N' by omega)]
          by_cases e : j = N'
          · rw [if_pos e]; exact hd i (by omega)
          · rw [if_neg e]; exact P.2 i j hij (by omega))
        obtain ⟨F, eF, hF⟩ := x_between (w := 2 ^ (6 + t)) (V := V) (n := N') X Y ha hlN (by omega) (fun k hk => by rw [(vk k hk).1, eV k hk]) (by
          obtain ⟨k, hk, hn⟩ := Vp
          exact ⟨k, by omega, hn⟩)
        rw [hGd] at hF
        have hF2 : ∀ k, k < 6 → (F k).toInt = v2 k := fun k hk => by rw [hF k hk, ev2]
        have hbF : xbt c g t E a l F := ⟨G, by omega, fun k hk => by rw [hF2 k (by omega)]; exact hbt k hk⟩
        have GF : zG c g (t + 1) F (τ a &&& τ l ||| 2 ^ (6 + t)) := Ga.between (by omega) h6 Gl adj sa h1 (show (0 : Int) < G by omega) (hprim.congr (fun k hk => (hF2 k (by omega)).symm)) (fun k hk hk2 => Int64.toInt_inj.1 (by
          rw [hF k hk, V0 k hk hk2, Nat.zero_div]
          rfl)) (fun k hk => by
          rw [hF2 k (by omega)]
          exact hbt k hk)
        have P2 := P.add GF (fun i hi => by
          obtain ⟨k, hk, hne⟩ := hd i hi
          exact ⟨k, hk, by rw [hF2 k (by omega)]; exact hne⟩)
        obtain ⟨M1, N1, E1, τ1, e1, f1, r1⟩ := ih (l + 1) (xp M b N' F (nI (τ a &&& τ l ||| 2 ^ (6 + t)))) (N' + 1) _ _ (by omega) ⟨X.fr xp_fr (xp_6 hb (by omega)), Y.push hb (by omega) F (τ a &&& τ l ||| 2 ^ (6 + t)), fun i hi => by rw [xp_J hb]; exact hs i hi, P2, fun i hi hp => by
          obtain ⟨i', hi', e2⟩ := i5 i hi hp
          exact ⟨i', by omega, by rw [if_neg (by omega)]; exact e2⟩, fun x y hx hy hl' hadj => by
          by_cases e : x = a ∧ y = l
          · rw [e.1, e.2]
            exact ⟨N', by omega, by rw [if_pos rfl]; exact hbF⟩
          · obtain ⟨i', hi', e2⟩ := i6 x y hx hy (by unfold xlt at hl' ⊢; omega) hadj
            exact ⟨i', by omega, by rw [if_neg (by omega)]; exact e2⟩, fun i' hi' => by
          by_cases e : i' = N'
          · rw [if_pos e]
            exact Or.inr ⟨a, l, ha, hlN, by unfold xlt; omega, ⟨sa, h1, adj⟩, hbF⟩
          · rw [if_neg e]
            rcases i7 i' (by omega) with z | ⟨x, y, hx, hy, hl', z⟩
            · exact Or.inl z
            · exact Or.inr ⟨x, y, hx, hy, by unfold xlt at hl' ⊢; omega, z⟩⟩
        refine ⟨M1, N1, E1, τ1, ?_, xp_fr.tr f1, r1⟩
        rw [eF, x_bV, x_and, x_or, nI_1]
        exact e1
    · rw [if_neg h1]
      exact skip (fun z => h1 z.2.1)
end cut
