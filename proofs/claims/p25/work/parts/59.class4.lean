/-! ===== the class: recording a change ===== -/
theorem am_rR_R {h : AH} {a : Nat} {f : Nat → Option Nat} : am_R (am_rR h a f) a = f := am_ud_eq
theorem am_rR_ne {h : AH} {a d : Nat} {f : Nat → Option Nat} (hd : d ≠ a) : am_R (am_rR h a f) d = am_R h d := am_ud_ne hd
theorem am_sR_rR {h : AH} {a k : Nat} {f : Nat → Option Nat} {v : Option Nat} : am_sR (am_rR h a f) a k v = am_rR h a (am_ud f k v) := by
  unfold am_sR am_rR
  dsimp only [am_R]
  rw [am_ud_ud, am_ud_eq]
theorem am_rR_id {h : AH} {a : Nat} {f : Nat → Option Nat} (e : am_R h a = f) : am_rR h a f = h := by
  rw [← e]
  show (h.1, h.2.1, h.2.2.1, am_ud h.2.2.2 a (h.2.2.2 a)) = h
  rw [am_ud_id]
theorem x_ofNat (n : Nat) : Int32.ofNat n = nI n := Eq.trans rfl rfl
section class4
variable {h : AH} {A : QA}
theorem cS.mv {h h1 : AH} {i : Nat} {o : Option QS} (x : cS h i o) (P : cP h) (hi : i < 2) (e : cr h1 (6 + i) = cr h (6 + i)) (hv : ∀ a s, (a = 2 ∨ 22 ≤ a) → a + 4 ≤ h.1.length → sV h a s → sV h1 a s) : cS h1 i o := by
  have e' : am_R h1 19 i = am_R h 19 i := by
    unfold cr at e
    rw [if_neg (by omega), if_neg (by omega), show 6 + i - 6 = i by omega] at e
    exact e
  revert x
  cases o with
  | none => unfold cS; rw [e']; exact id
  | some s =>
    unfold cS
    rintro ⟨a, ea, va⟩
    have q := P.2.1 (6 + i) (by omega) a (by unfold cr; rw [if_neg (by omega), show 6 + i - 6 = i by omega]; exact ea)
    exact ⟨a, by rw [e']; exact ea, hv a s (Or.inr q.1) q.2.2.1 va⟩
/-- a new State for the history -/
theorem cI.newH {h4 : AH} (I : cI h A) {n : Nat} (hn : n < 6) (hna : A.2.1.1 ≤ n) (e : am_R h 18 n = none) (t4 : h4.1 = h.1 ++ [(2, 5), (5, 12), (5, 6), (5, 6)]) (o4 : ∀ b, b < h.1.length → am_I h4 b = am_I h b ∧ am_J h4 b = am_J h b ∧ am_R h4 b = am_R h b) (v4 : sV h4 h.1.length (q_new 2 1)) : cI (am_sR h4 18 n (some h.1.length)) A ∧ am_R (am_sR h4 18 n (some h.1.length)) 18 n = some h.1.length ∧ cF h (am_sR h4 18 n (some h.1.length)) cN := by
  have g := I.1.g
  have en : cr h n = none := by unfold cr; rw [if_pos hn]; exact e
  have q := c_alloc I.1 I.2.1 (show n < 8 by omega) en t4 o4 v4
  rw [show c_row n = 18 from if_pos hn, show c_pos n = n from if_pos hn] at q
  obtain ⟨q1, q2, q3, q4, q5, q6⟩ := q
  obtain ⟨i1, i2, i3, i4, i5, i6, i7, i8⟩ := id I
  refine ⟨⟨q1, q2, q5 2 _ (Or.inl rfl) (by omega) i3, ⟨?_, i4.2.1, fun i hi => ?_⟩, fun i hi => (i5 i hi).mv i2 hi (q4 _ (by omega) (by omega)) q5, ?_, i7, ?_⟩, by rw [am_sR_R, am_ud_eq], q6⟩
  · show am_I h4 1 5 = _
    rw [(o4 1 (by omega)).1]; exact i4.1
  · obtain ⟨a, ea, va, h1, h2⟩ := I.h hi
    have ec : cr h i = some a := by unfold cr; rw [if_pos (by omega)]; exact ea
    have := i2.2.1 i (by omega) a ec
    have e2 := q4 i (by omega) (by omega)
    rw [ec] at e2
    unfold cr at e2
    rw [if_pos (by omega)] at e2
    exact ⟨a, e2, q5 a _ (Or.inr h1) this.2.2.1 va⟩
  · show am_I h4 15 0 = _
    rw [(o4 15 (by omega)).1]; exact i6
  · show ∀ k, k < A.2.2.2.1 → am_I h4 16 k = _
    rw [(o4 16 (by omega)).1]; exact i8
theorem c_rec16 (I : cI h A) (hn : A.2.1.1 < 6) : ∃ h1, am_ev 89 16 [.ref 1, am_ph] [] h = some (none, h1) ∧ cI h1 (A.1, (A.2.1.1 + 1, fun i => if i = A.2.1.1 then A.1 else A.2.1.2 i), A.2.2) ∧ cF h h1 cN ∧ am_R h1 19 = am_R h 19 ∧ ∀ b, b ≠ 1 → b < 22 → am_I h1 b = am_I h b := by
  have L := I.1
  have g := L.g
  have e5 : am_I h 1 5 = nI A.2.1.1 := I.2.2.2.1.1
  rw [am_b89_16, if_pos L.k1, e5, if_neg (nI_pos (by omega)), if_pos L.k1, if_pos L.k1, L.hi, x_oe, if_pos (by rw [L.k18]; omega), x_ofNat, L.l18, if_pos (by rw [x_lt (by omega) (by omega)]; exact hn), if_pos L.k1, x_oe, if_pos L.k1, x_cl (by omega), if_pos ⟨L.k18, fun z => z.elim (nI_pos (by omega)) (by rw [L.l18]; omega)⟩]
  cases e : am_R h 18 A.2.1.1 with
  | some b =>
    rw [x_oe]
    obtain ⟨h1, e1, I1, f1⟩ := c_rec68 I hn e
    exact ⟨h1, e1, I1, f1.c (fun b z => z.elim (fun z => Or.inl (by omega)) (fun z => Or.inr (Or.inr z))), by rw [f1.2.1], fun b b1 b2 => f1.2.2.1 b (by omega)⟩
  | none =>
    obtain ⟨h4, e4, t4, o4, v4⟩ := s_ctor (h := h)
    obtain ⟨I6, r6, f6⟩ := I.newH (n := A.2.1.1) hn (Nat.le_refl _) e t4 o4 v4
    have k4 : am_kd h4 1 = 3 := (t_kd_lt t4 (by omega)).1.trans L.k1
    have r4 : am_R h4 1 3 = some 18 := by rw [(o4 1 (by omega)).2.2]; exact L.hi
    have k18 : am_kd h4 18 = 8 := (t_kd_lt t4 (by omega)).1.trans L.k18
    have l18 : am_ln h4 18 = 6 := (t_kd_lt t4 (by omega)).2.trans L.l18
    have i4 : am_I h4 1 5 = nI A.2.1.1 := by rw [(o4 1 (by omega)).1]; exact e5
    have kn : am_kd (am_nw h 2 5) h.1.length = 2 := (t_kd (M := am_nw h 2 5) (p := h.1) (l := [(2, 5)]) rfl 0).1
    show ∃ h1, (if am_kd (am_nw h 2 5) h.1.length = 2 then _ else none) = _ ∧ _
    rw [if_pos kn, e4, x_bV, if_pos k4, r4, x_oe, if_pos k4, i4, x_cl (by omega), if_pos ⟨k18, fun z => z.elim (nI_pos (by omega)) (by rw [l18]; omega)⟩, if_pos v4.1.1]
    obtain ⟨h1, e1, I1, f1⟩ := c_rec68 I6 hn r6
    exact ⟨h1, e1, I1, f6.tr (f1.wk (fun b z => z.elim (fun z => Or.inl (by omega)) (fun z => Or.inr (Or.inr z)))), by rw [f1.2.1, am_sR_ne (by omega), (o4 19 (by omega)).2.2], fun b b1 b2 => by rw [f1.2.2.1 b (by omega)]; exact (o4 b (by omega)).1⟩
theorem c_drop9 {o : Nat} {R : Nat → Option Nat} (hR : ∀ i, i < 6 → ∃ a, R i = some a ∧ am_kd h a = 2) (k1 : am_kd h 1 = 3) (r3 : am_R h 1 3 = some 18) (k18 : am_kd h 18 = 8) (l18 : am_ln h 18 = 6) (eR : am_R h 18 = R) (ko : am_kd h o = 2) : ∀ (d j : Nat), j + d = 6 → 1 ≤ j → am_ev 90 9 [.ref 1, .ref o, .int (nI j)] [] (am_rR h 18 (fun k => if k + 1 < j then R (k + 1) else R k)) = some (none, am_sI (am_rR h 18 (fun k => if k = 5 then some o else if k < 5 then R (k + 1) else R k)) 1 5 (nI 5)) := by
  intro d
  induction d with
  | zero =>
    intro j hj h1
    obtain rfl : j = 6 := by omega
    generalize hM : am_rR h 18 (fun k => if k + 1 < 6 then R (k + 1) else R k) = M
    have kM : ∀ b, am_kd M b = am_kd h b ∧ am_ln M b = am_ln h b := fun b => by rw [← hM]; exact ⟨rfl, rfl⟩
    have rM : am_R M 1 3 = some 18 := by rw [← hM, am_rR_ne (by omega)]; exact r3
    have kM1 := (kM 1).1.trans k1
    have kM18 := (kM 18).1.trans k18
    have lM18 := (kM 18).2.trans l18
    have kMo := (kM o).1.trans ko
    rw [am_b90_9, if_pos kM1, rM, x_oe, if_pos (by rw [kM18]; omega), x_ofNat, lM18, if_neg (by decide), if_pos kM1, x_oe, if_pos kM1, x_oe, if_pos (by rw [kM18]; omega), x_ofNat, lM18, x_c1, x_sub (by omega), show 6 - 1 = 5 from rfl, x_cl (by omega), if_pos ⟨kM18, fun z => z.elim (nI_pos (by omega)) (by omega)⟩, if_pos kMo]
    generalize hM2 : am_sR M 18 5 (some o) = M2
    have kM2 : ∀ b, am_kd M2 b = am_kd h b ∧ am_ln M2 b = am_ln h b := fun b => by rw [← hM2]; exact kM b
    have rM2 : am_R M2 1 3 = some 18 := by rw [← hM2, am_sR_ne (by omega)]; exact rM
    have kM21 := (kM2 1).1.trans k1
    have kM218 := (kM2 18).1.trans k18
    have lM218 := (kM2 18).2.trans l18
    try dsimp only
    rw [if_pos kM21, rM2, x_oe, if_pos (by rw [kM218]; omega), if_pos kM21, x_ofNat, lM218, x_sub (by omega), show 6 - 1 = 5 from rfl]
    have : M2 = am_rR h 18 (fun k => if k = 5 then some o else if k < 5 then R (k + 1) else R k) := by
      rw [← hM2, ← hM]
      rw [am_sR_rR]
      congr 1
      funext k
      unfold am_ud
      by_cases e : k = 5
      · rw [if_pos e, if_pos e]
      · rw [if_neg e, if_neg e]
        try dsimp only
        by_cases e2 : k < 5
        · rw [if_pos (by omega), if_pos e2]
        · rw [if_neg (by omega), if_neg e2]
    rw [this]
  | succ d ih =>
    intro j hj h1
    generalize hM : am_rR h 18 (fun k => if k + 1 < j then R (k + 1) else R k) = M
    have kM : ∀ b, am_kd M b = am_kd h b ∧ am_ln M b = am_ln h b := fun b => by rw [← hM]; exact ⟨rfl, rfl⟩
    have rM : am_R M 1 3 = some 18 := by rw [← hM, am_rR_ne (by omega)]; exact r3
    have kM1 := (kM 1).1.trans k1
    have kM18 := (kM 18).1.trans k18
    have lM18 := (kM 18).2.trans l18
    obtain ⟨a, ea, ka⟩ := hR j (by omega)
    have eMj : am_R M 18 j = some a := by
      rw [← hM, am_rR_R]
      try dsimp only
      rw [if_neg (by omega)]
      exact ea
    have kMa := (kM a).1.trans ka
    have i := ih (j + 1) (by omega) (by omega)
    have eN : am_sR M 18 (j - 1) (some a) = am_rR h 18 (fun k => if k + 1 < j + 1 then R (k + 1) else R k) := by
      rw [← hM]
      rw [am_sR_rR]
      congr 1
      funext k
      unfold am_ud
      by_cases e : k = j - 1
      · rw [if_pos e, if_pos (by omega), ← ea, e, show j - 1 + 1 = j by omega]
      · rw [if_neg e]
        try dsimp only
        by_cases e2 : k + 1 < j
        · rw [if_pos e2, if_pos (by omega)]
        · rw [if_neg e2, if_neg (by omega)]
    rw [am_b90_9, if_pos kM1, rM, x_oe, if_pos (by rw [kM18]; omega), x_ofNat, lM18, if_pos (by rw [x_lt (by omega) (by omega)]; omega), if_pos kM1, x_oe, if_pos kM1, x_oe, if_pos ⟨kM18, fun z => z.elim (nI_pos (by omega)) (by rw [x_cl (by omega)]; omega)⟩, x_cl (by omega), eMj, x_oe, x_c1, x_sub (by omega), if_pos ⟨kM18, fun z => z.elim (nI_pos (by omega)) (by rw [x_cl (by omega)]; omega)⟩, if_pos kMa, x_cl (by omega), eN, nI_add]
    exact i
/-- the oldest change goes -/
theorem c_drop (I : cI h A) (hn : A.2.1.1 = 6) : ∃ h1, am_ev 90 0 [.ref 1, am_ph, am_ph] [] h = some (none, h1) ∧ cI h1 (A.1, (5, fun i => A.2.1.2 (i + 1)), A.2.2) ∧ (h1.1 = h.1 ∧ am_J h1 = am_J h ∧ (∀ b, b ≠ 1 → am_I h1 b = am_I h b) ∧ ∀ b, b ≠ 18 → am_R h1 b = am_R h b) := by
  obtain ⟨i1, i2, i3, i4, i5, i6, i7, i8⟩ := id I
  have hR : ∀ i, i < 6 → ∃ a, am_R h 18 i = some a ∧ am_kd h a = 2 := fun i hi => by
    obtain ⟨a, e, v, -⟩ := I.h (show i < A.2.1.1 by omega)
    exact ⟨a, e, v.1.1⟩
  obtain ⟨o, eo, ko⟩ := hR 0 (by omega)
  have e := c_drop9 hR i1.k1 i1.hi i1.k18 i1.l18 rfl ko 5 1 (by omega) (by omega)
  rw [am_rR_id (by funext k; rw [if_neg (by omega)])] at e
  generalize hM : am_sI (am_rR h 18 (fun k => if k = 5 then some o else if k < 5 then am_R h 18 (k + 1) else am_R h 18 k)) 1 5 (nI 5) = M at e
  have fT : M.1 = h.1 := by rw [← hM]; rfl
  have fJ : am_J M = am_J h := by rw [← hM]; rfl
  have fI : ∀ b, b ≠ 1 → am_I M b = am_I h b := fun b hb => by rw [← hM, am_sI_ne hb]; rfl
  have fR : ∀ b, b ≠ 18 → am_R M b = am_R h b := fun b hb => by rw [← hM, x_RI, am_rR_ne hb]
  have f18 : ∀ i, am_R M 18 i = if i = 5 then some o else if i < 5 then am_R h 18 (i + 1) else am_R h 18 i := fun i => by rw [← hM, x_RI, am_rR_R]
  have kd : ∀ b, am_kd M b = am_kd h b ∧ am_ln M b = am_ln h b := fun b => by unfold am_kd am_ln; rw [fT]; exact ⟨rfl, rfl⟩
  have hv : ∀ a s, (a = 2 ∨ 22 ≤ a) → sV h a s → sV M a s := fun a s ha v => v.cp (fun j hj => ⟨(kd _).1, (kd _).2, fI _ (by omega)⟩) (fR a (by omega))
  have hs : ∀ a c, (a = 2 ∨ 22 ≤ a) → sS h a c → sS M a c := fun a c ha v => v.cp (fun j hj => ⟨(kd _).1, (kd _).2, fI _ (by omega)⟩) (fR a (by omega))
  have hcr : ∀ i, i < 8 → ∃ j, j < 8 ∧ cr M i = cr h j ∧ (i < 5 → j = i + 1) ∧ (i = 5 → j = 0) ∧ (5 < i → j = i) := by
    intro i hi
    by_cases h5 : i = 5
    · refine ⟨0, by omega, ?_, by omega, by omega, by omega⟩
      unfold cr
      rw [if_pos (by omega), if_pos (by omega), f18, if_pos h5, eo]
    · by_cases h6 : i < 5
      · refine ⟨i + 1, by omega, ?_, by omega, by omega, by omega⟩
        unfold cr
        rw [if_pos (by omega), if_pos (by omega), f18, if_neg h5, if_pos h6]
      · refine ⟨i, hi, ?_, by omega, by omega, by omega⟩
        unfold cr
        rw [if_neg (by omega), if_neg (by omega), fR 19 (by omega)]
  have P : cP M := by
    refine ⟨by rw [fT]; exact i2.1, fun i hi a ea => ?_, fun i j hij hj a ea => ?_⟩
    · obtain ⟨j, hj, ej, -⟩ := hcr i hi
      rw [ej] at ea
      obtain ⟨q1, q2, q3, c, q4⟩ := i2.2.1 j hj a ea
      exact ⟨q1, q2, by rw [fT]; exact q3, c, hs a c (Or.inr q1) q4⟩
    · obtain ⟨i', hi', ei, g1, g2, g3⟩ := hcr i (by omega)
      obtain ⟨j', hj', ej, g4, g5, g6⟩ := hcr j hj
      rw [ei] at ea
      rw [ej]
      intro z
      rcases (show i' < j' ∨ j' < i' by omega) with g | g
      · exact i2.2.2 i' j' g hj' a ea z
      · exact i2.2.2 j' i' g hi' a z ea
  have L : cL M := by
    unfold cL
    simp only [kd]
    rw [fR 1 (by omega), fR 15 (by omega), fT]
    exact i1
  refine ⟨M, ?_, ?_, fT, fJ, fI, fR⟩
  · rw [am_b90_0, if_pos i1.k1, i1.hi, x_oe, if_pos ⟨i1.k18, fun z => z.elim (by decide) (by rw [i1.l18]; decide)⟩, x_cl0, eo, x_oe, x_c1]
    exact e
  · refine I.of (n := 5) (H := fun i => A.2.1.2 (i + 1)) (sl := A.2.2.1) L P (hv 2 _ (Or.inl rfl) i3) (by rw [← hM, am_sI_I, am_ud_eq]) (by omega) (fun i hi => ?_) (fun i hi => ?_) (fI 15 (by omega)) (fI 16 (by omega))
    · obtain ⟨a, ea, va, ha, -⟩ := I.h (show i + 1 < A.2.1.1 by omega)
      exact ⟨a, by rw [f18, if_neg (by omega), if_pos hi]; exact ea, hv a _ (Or.inr ha) va⟩
    · have := i5 i hi
      revert this
      cases A.2.2.1 i with
      | none => unfold cS; rw [fR 19 (by omega)]; exact id
      | some s =>
        unfold cS
        rintro ⟨a, ea, va⟩
        have q := i2.2.1 (6 + i) (by omega) a (by unfold cr; rw [if_neg (by omega), show 6 + i - 6 = i by omega]; exact ea)
        exact ⟨a, by rw [fR 19 (by omega)]; exact ea, hv a s (Or.inr q.1) va⟩
/-- a change is recorded -/
theorem cI.rec' (I : cI h A) : ∃ h1, am_ev 89 0 [.ref 1, am_ph] [] h = some (none, h1) ∧ cI h1 (A.1, q_rec A, A.2.2) ∧ cF h h1 cN ∧ am_R h1 19 = am_R h 19 ∧ ∀ b, b ≠ 1 → b < 22 → am_I h1 b = am_I h b := by
  have L := I.1
  have e5 : am_I h 1 5 = nI A.2.1.1 := I.2.2.2.1.1
  have hn := I.2.2.2.1.2.1
  rw [am_b89_0, if_pos L.k1, if_pos L.k1, L.hi, x_oe, if_pos (by rw [L.k18]; omega), x_ofNat, L.l18, e5]
  simp only [x_lt (show A.2.1.1 < 2147483648 by omega) (show 6 < 2147483648 by omega)]
  unfold q_rec q_recN q_recH
  by_cases h6 : A.2.1.1 = 6
  · rw [if_neg (by omega), if_pos L.k1]
    obtain ⟨h1, e1, I1, t1, t2, t3, t4⟩ := c_drop I h6
    obtain ⟨h2, e2, I2, f2, g2⟩ := c_rec16 I1 (by show 5 < 6; omega)
    rw [e1, x_bV]
    refine ⟨h2, e2, ?_, ?_, g2.1.trans (t4 19 (by omega)), fun b b1 b2 => (g2.2 b b1 b2).trans (t3 b b1)⟩
    · rw [if_pos h6, if_pos h6]
      exact I2
    · obtain ⟨⟨l, el, dl⟩, f3⟩ := f2
      refine ⟨⟨l, by rw [el, t1], dl⟩, fun b hb hp => ?_⟩
      have := f3 b (by rw [t1]; exact hb) hp
      have b1 : b ≠ 1 := fun z => hp (by rw [z]; exact Or.inl (by omega))
      have b18 : b ≠ 18 := fun z => hp (by rw [z]; exact Or.inr (Or.inl (by omega)))
      exact ⟨this.1.trans (t3 b b1), by rw [this.2.1, t2], this.2.2.trans (t4 b b18)⟩
  · rw [if_pos (by omega)]
    obtain ⟨h2, e2, I2, f2, g2⟩ := c_rec16 I (by omega)
    rw [if_neg h6, if_neg h6]
    exact ⟨h2, e2, I2, f2, g2⟩
theorem cI.rec (I : cI h A) : ∃ h1, am_ev 89 0 [.ref 1, am_ph] [] h = some (none, h1) ∧ cI h1 (A.1, q_rec A, A.2.2) ∧ cF h h1 cN := by
  obtain ⟨h1, e, i, f, -⟩ := I.rec'
  exact ⟨h1, e, i, f⟩
end class4
