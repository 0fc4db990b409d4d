/-! ===== the class with its Extremes ===== -/
def xSm (h h1 : AH) : Prop := ∀ a, 6 ≤ a → a < 15 → am_kd h1 a = am_kd h a ∧ am_ln h1 a = am_ln h a ∧ am_I h1 a = am_I h a ∧ am_J h1 a = am_J h a ∧ am_R h1 a = am_R h a
section cx
variable {h h1 : AH} {A : QA}
theorem xL.same {b : Nat} (m : xL h b) (e : xSm h h1) : xL h1 b := by
  have e6 := e 6 (by omega) (by omega)
  have e13 := e 13 (by omega) (by omega)
  have e14 := e 14 (by omega) (by omega)
  obtain ⟨m0, m1, m2, m3, m4, m5, m6, m7, m8, m9, m10, m11, m12, m13, m14⟩ := m
  unfold xL
  rw [e6.1, e6.2.2.2.2, e13.1, e13.2.1, e14.1, e14.2.1]
  exact ⟨m0, m1, m2, m3, m4, m5, m6, m7, m8, m9, fun a ha => by
    have := e a (by omega) (by omega)
    rw [this.1, this.2.1]; exact m10 a ha, fun a ha => by
    have := e a (by omega) (by omega)
    rw [this.1, this.2.1]; exact m11 a ha, fun a ha => by
    have := e a (by omega) (by omega)
    rw [this.1, this.2.1]; exact m12 a ha, m13, m14⟩
theorem xC.same {b N : Nat} {E : Nat → Nat → Int64} {τ : Nat → Nat} (X : xC h b N E τ) (e : xSm h h1) : xC h1 b N E τ := by
  obtain ⟨m, x1, x2, x3, x4⟩ := X
  have hb := m.1
  refine ⟨m.same e, ?_, x2, fun i hi k hk => ?_, fun i hi => ?_⟩
  · rw [(e 6 (by omega) (by omega)).2.2.1]; exact x1
  · rw [(e (7 + b) (by omega) (by omega)).2.2.2.1]; exact x3 i hi k hk
  · rw [(e (9 + b) (by omega) (by omega)).2.2.1]; exact x4 i hi
theorem xE.same (C : xE h) (e : xSm h h1) : xE h1 := by
  obtain ⟨b, m, C⟩ := C
  refine ⟨b, m.same e, ?_⟩
  rw [(e 6 (by omega) (by omega)).2.2.1, (e 14 (by omega) (by omega)).2.2.1]
  rcases C with z | ⟨c, g, N, E, τ, c3, e9, eg, V1, V2, V3, V4⟩
  · exact Or.inl z
  · exact Or.inr ⟨c, g, N, E, τ, c3, e9, eg, V1.same e, V2, fun i hi => by rw [(e 12 (by omega) (by omega)).2.2.2.1]; exact V3 i hi, V4⟩
theorem cF.sm (L : cL h) (f : cF h h1 cN) : xSm h h1 := fun a h6 h15 => by
  have g := L.g
  have k := f.kd (show a < h.1.length by omega)
  have r := f.2 a (by omega) (fun z => by unfold cN at z; omega)
  exact ⟨k.1, k.2, r.1, r.2.1, r.2.2⟩
theorem am_fr.sm {P : Nat → Prop} (f : am_fr h h1 P) (hp : ∀ a, P a → a < 6 ∨ 15 ≤ a) : xSm h h1 := fun a h6 h15 => ⟨f.kd a, f.ln a, f.2.2.1 a (fun z => by have := hp a z; omega), f.2.2.2 a (fun z => by have := hp a z; omega), by rw [f.2.1]⟩
/-- rows of the class -/
def cM (b : Nat) : Prop := (0 < b ∧ b < 20) ∨ 22 ≤ b
theorem cF.wk {P Q : Nat → Prop} (f : cF h h1 P) (hp : ∀ b, P b → Q b) : cF h h1 Q := ⟨f.1, fun b hb hq => f.2 b hb (fun z => hq (hp b z))⟩
theorem cN.M : ∀ b, cN b → cM b := fun b z => by unfold cN at z; unfold cM; omega
theorem xF.M (f : xF h h1) : cF h h1 cM := ⟨⟨[], by rw [f.1]; simp, Or.inl rfl⟩, fun b _ hb => f.2 b (fun z => hb (by unfold cM; omega))⟩
theorem xF.trM {h2 : AH} (f : xF h h1) (g : cF h1 h2 cM) : cF h h2 cM := by
  obtain ⟨⟨l, e, d⟩, g2⟩ := g
  refine ⟨⟨l, by rw [e, f.1], d⟩, fun b hb hp => ?_⟩
  have a1 := g2 b (by rw [f.1]; exact hb) hp
  have a2 := f.2 b (fun z => hp (by unfold cM; omega))
  exact ⟨a1.1.trans a2.1, a1.2.1.trans a2.2.1, a1.2.2.trans a2.2.2⟩
theorem cI.xF (I : cI h A) (f : xF h h1) : cI h1 A := by
  obtain ⟨i1, i2, i3, i4, i5, i6, i7, i8⟩ := id I
  have hs : ∀ a c, a = 2 ∨ 22 ≤ a → sS h a c → sS h1 a c := fun a c ha v => v.cp (fun j hj => ⟨(f.kd _).1, (f.kd _).2, (f.2 _ (by omega)).1⟩) (f.2 a (by omega)).2.2
  have hv : ∀ a s, a = 2 ∨ 22 ≤ a → sV h a s → sV h1 a s := fun a s ha v => v.cp (fun j hj => ⟨(f.kd _).1, (f.kd _).2, (f.2 _ (by omega)).1⟩) (f.2 a (by omega)).2.2
  have hr : ∀ i, cr h1 i = cr h i := fun i => by
    unfold cr
    rw [(f.2 18 (by omega)).2.2, (f.2 19 (by omega)).2.2]
  refine ⟨?_, ⟨by rw [f.1]; exact i2.1, fun i hi a ea => ?_, fun i j hij hj a ea => ?_⟩, hv 2 _ (Or.inl rfl) i3, ⟨by rw [(f.2 1 (by omega)).1]; exact i4.1, i4.2.1, fun i hi => ?_⟩, fun i hi => (i5 i hi).mv i2 hi (hr _) (fun a s ha _ v => hv a s ha v), by rw [(f.2 15 (by omega)).1]; exact i6, i7, by rw [(f.2 16 (by omega)).1]; exact i8⟩
  · unfold cL
    simp only [f.kd, f.1]
    rw [(f.2 1 (by omega)).2.2, (f.2 15 (by omega)).2.2]
    exact i1
  · rw [hr] at ea
    obtain ⟨q1, q2, q3, c, q4⟩ := i2.2.1 i hi a ea
    exact ⟨q1, q2, by rw [f.1]; exact q3, c, hs a c (Or.inr q1) q4⟩
  · rw [hr] at ea ⊢
    exact i2.2.2 i j hij hj a ea
  · obtain ⟨a, ea, va, ha, -⟩ := I.h hi
    exact ⟨a, by rw [(f.2 18 (by omega)).2.2]; exact ea, hv a _ (Or.inr ha) va⟩
/-- the list that counts is the game's own -/
def xW (h : AH) (b : Nat) (τ : Nat → Nat) (s : QS) : Prop := xC h b (q_N s) (q_E s) τ ∧ z_list s.1 (q_g s) (q_N s, q_E s) ∧ (∀ i, i < q_N s → am_J h 12 i = f_sumE s i) ∧ ∀ i, i < q_N s → xB s.1 (q_g s) (q_nq s.1) (fun k => (q_E s i k).toInt) (τ i)
theorem c_work (I : cI h A) (C : xE h) (w : q_wf A.1) : ∃ h1 b τ, am_ev 1 0 [.ref 6, .ref 2, am_ph] [] h = some (some (.ref 6), h1) ∧ cI h1 A ∧ xE h1 ∧ xF h h1 ∧ xW h1 b τ A.1 := by
  have h6 := I.c6
  obtain ⟨h1, b, N, E, τ, e1, f1, C1, V1, V2, V3, V4⟩ := x_worked C I.2.2.1 w
  obtain ⟨l1, l2, l3⟩ := q_ex_of V2
  subst l2
  have V1' := V1
  obtain ⟨m, x1, x2, x3, x4⟩ := V1
  refine ⟨h1, b, τ, e1, I.xF f1, C1, f1, ⟨m, x1, x2, fun i hi k hk => by rw [← l3 i hi k hk]; exact x3 i hi k hk, x4⟩, l1, fun i hi => ?_, fun i hi => ?_⟩
  · rw [V3 i hi]
    exact j_sum_congr (fun k hk => l3 i hi k hk)
  · have hx := V4 i hi
    have ed : ∀ r, z_dot (2 * A.1.1) r (fun k => (q_E A.1 i k).toInt) = z_dot (2 * A.1.1) r (fun k => (E i k).toInt) := fun r => z_dot_congr (fun k hk => by rw [l3 i hi k (by omega)])
    refine ⟨hx.1, fun r => ?_⟩
    rw [hx.2 r]
    simp only [ed]
    constructor
    · rintro (⟨z1, z2⟩ | z)
      · exact Or.inl ⟨z1, by rw [← l3 i hi r (by omega)]; exact z2⟩
      · exact Or.inr z
    · rintro (⟨z1, z2⟩ | z)
      · exact Or.inl ⟨z1, by rw [← l3 i hi r (by omega)] at z2; exact z2⟩
      · exact Or.inr z
theorem xW.N {b : Nat} {τ : Nat → Nat} {s : QS} (W : xW h b τ s) : 0 < q_N s ∧ q_N s ≤ 128 := W.2.1.1
theorem x_toldC {b i : Nat} {τ : Nat → Nat} {s : QS} (W : xW h b τ s) (hi : i < q_N s) : am_ev 5 0 [.ref 6, .int (nI i), am_ph, am_ph] [] h = some (some (.int (f_told s i)), h) := by
  have X := W.1
  have key : ∀ d j, j + d = 6 → am_ev 5 4 [.ref 6, .int (nI i), .int (q_or j fun k => if (0 : Int64) < q_E s i k then q_set k else 0), .int (nI j)] [] h = some (some (.int (f_told s i)), h) := by
    intro d
    induction d with
    | zero =>
      intro j hj
      obtain rfl : j = 6 := by omega
      rw [am_b5_4, x_c6, if_neg (by rw [x_lt (by omega) (by omega)]; omega)]
      rfl
    | succ d ih =>
      intro j hj
      have i' := ih (j + 1) (by omega)
      rw [q_or_s] at i'
      rw [am_b5_4, x_c6, if_pos (by rw [x_lt (by omega) (by omega)]; omega), if_pos X.1.k, x_weight X hi (by omega), x_bJ]
      simp only [lg_cmp_gt]
      rw [nI_1]
      by_cases h1 : (0 : Int64) < q_E s i j
      · rw [if_pos h1] at i' ⊢
        exact i'
      · rw [if_neg h1, q_or0] at i'
        rw [if_neg h1]
        exact i'
  have k0 := key 6 0 (by omega)
  rw [nI_0] at k0
  rw [am_b5_0]
  exact k0
theorem x_anyC {b : Nat} {τ : Nat → Nat} {s : QS} (W : xW h b τ s) : am_ev 7 0 [.ref 6, am_ph, am_ph] [] h = some (some (.int (f_any s)), h) := by
  have X := W.1
  have hN := W.N
  have key : ∀ d j, j + d = q_N s → am_ev 7 4 [.ref 6, .int (q_or j (f_told s)), .int (nI j)] [] h = some (some (.int (f_any s)), h) := by
    intro d
    induction d with
    | zero =>
      intro j hj
      obtain rfl : j = q_N s := by omega
      rw [am_b7_4, if_pos X.1.k, X.2.1, if_neg (by rw [x_lt (by omega) (by omega)]; omega)]
      rfl
    | succ d ih =>
      intro j hj
      have i' := ih (j + 1) (by omega)
      rw [q_or_s] at i'
      rw [am_b7_4, if_pos X.1.k, X.2.1, if_pos (by rw [x_lt (by omega) (by omega)]; omega), if_pos X.1.k, x_toldC W (by omega), x_bI, nI_1]
      exact i'
  have k0 := key (q_N s) 0 (by omega)
  rw [nI_0] at k0
  rw [am_b7_0]
  exact k0
theorem x_ptsC {b i p : Nat} {τ : Nat → Nat} (I : cI h A) (W : xW h b τ A.1) (hi : i < q_N A.1) (hp : p < 3) : am_ev 8 0 [.ref 6, .ref 2, .int (nI i), .int (nI p), am_ph, am_ph, am_ph] [] h = some (some (.long (f_pts A.1 i p)), h) := by
  have X := W.1
  have S := I.S
  have h6 := I.c6
  have key : ∀ d j, j + d = 2 * A.1.1 → am_ev 8 6 [.ref 6, .ref 2, .int (nI i), .int (nI p), .long (j_sum j fun k => q_E A.1 i k * (q_gb (q_g A.1) p k).toInt64), am_ph, .int (nI j)] [] h = some (some (.long (f_pts A.1 i p)), h) := by
    intro d
    induction d with
    | zero =>
      intro j hj
      obtain rfl : j = 2 * A.1.1 := by omega
      rw [am_b8_6, if_pos S.1, s_cells S, x_bI, if_neg (by rw [x_lt (by omega) (by omega)]; omega)]
      rfl
    | succ d ih =>
      intro j hj
      have i' := ih (j + 1) (by omega)
      rw [j_sum_s] at i'
      have eg : (if p = 2 then sG h 2 0 j + sG h 2 1 j else sG h 2 p j) = q_gb (q_g A.1) p j := by
        unfold q_gb
        by_cases e : p = 2
        · rw [if_pos e, if_pos e, I.G (by omega) (by omega), I.G (by omega) (by omega)]
        · rw [if_neg e, if_neg e, I.G (by omega) (by omega)]
      rw [am_b8_6, if_pos S.1, s_cells S, x_bI, if_pos (by rw [x_lt (by omega) (by omega)]; omega), if_pos X.1.k, x_weight X hi (by omega), x_bJ, if_pos S.1, s_gainBoth S hp (by omega), x_bI, eg, nI_1]
      exact i'
  have k0 := key (2 * A.1.1) 0 (by omega)
  rw [nI_0] at k0
  rw [am_b8_0]
  exact k0
theorem x_bestC {b p : Nat} {τ : Nat → Nat} (I : cI h A) (W : xW h b τ A.1) (hp : p < 3) : am_ev 9 0 [.ref 6, .ref 2, .int (nI p), am_ph, am_ph, am_ph, am_ph, am_ph, am_ph] [] h = some (some (.int (nI (q_bst A.1 p (q_N A.1 - 1) 1 0))), h) ∧ q_bst A.1 p (q_N A.1 - 1) 1 0 < q_N A.1 := by
  have X := W.1
  have hN := W.N
  have key : ∀ d k l, k + d = q_N A.1 → l < q_N A.1 → am_ev 9 14 [.ref 6, .ref 2, .int (nI p), .int (nI l), .long (f_pts A.1 l p), am_ph, .int (nI k), am_ph, am_ph] [] h = some (some (.int (nI (q_bst A.1 p d k l))), h) ∧ q_bst A.1 p d k l < q_N A.1 := by
    intro d
    induction d with
    | zero =>
      intro k l hk hl
      refine ⟨?_, hl⟩
      rw [am_b9_14, if_pos X.1.k, X.2.1, if_neg (by rw [x_lt (by omega) (by omega)]; omega)]
      rfl
    | succ d ih =>
      intro k l hk hl
      rw [am_b9_14, if_pos X.1.k, X.2.1, if_pos (by rw [x_lt (by omega) (by omega)]; omega), if_pos X.1.k, x_ptsC I W (by omega) hp, x_bJ, if_pos X.1.k, x_sumAt X.1 (by omega), x_bJ, if_pos X.1.k, x_sumAt X.1 (by omega), x_bJ, W.2.2.1 l hl, W.2.2.1 k (by omega), nI_1]
      simp only [lg_cmp_gt]
      have e : q_bst A.1 p (d + 1) k l = q_bst A.1 p d (k + 1) (if f_pts A.1 l p * f_sumE A.1 k < f_pts A.1 k p * f_sumE A.1 l then k else l) := rfl
      rw [e]
      by_cases h1 : f_pts A.1 l p * f_sumE A.1 k < f_pts A.1 k p * f_sumE A.1 l
      · rw [if_pos h1, if_pos h1]
        exact ih (k + 1) k (by omega) (by omega)
      · rw [if_neg h1, if_neg h1]
        exact ih (k + 1) l (by omega) hl
  have k0 := key (q_N A.1 - 1) 1 0 (by omega) hN.1
  have e1 := x_ptsC I W hN.1 hp
  rw [nI_0] at k0 e1
  rw [am_b9_0, if_pos X.1.k, e1, x_bJ, x_c1]
  exact k0
theorem x_sumPos {b i : Nat} {τ : Nat → Nat} {s : QS} (w : q_wf s) (W : xW h b τ s) (hi : i < q_N s) : 0 < (f_sumE s i).toInt := by
  obtain ⟨-, l2, -⟩ := W.2.1
  have hx := (l2 i hi).1
  have h3 := w.c3
  have G : zG s.1 (q_g s) (q_nq s.1) (q_E s i) (τ i) := ⟨hx, fun k _ hk => (l2 i hi).2 k hk, W.2.2.2 i hi⟩
  exact (G.sum h3 w.rng (Nat.le_refl _)).2.1
end cx
