/-! ===== the class's Extremes: what it lays ===== -/
/-- a row of longs filled from a place on -/
def am_fj (h : AH) (w o n : Nat) (F : Nat → Int64) : AH := am_rJ h w (fun k => if o ≤ k ∧ k < o + n then F (k - o) else am_J h w k)
theorem am_rJ_id {h : AH} {a : Nat} {f : Nat → Int64} (e : am_J h a = f) : am_rJ h a f = h := by
  rw [← e]
  show (h.1, h.2.1, am_ud h.2.2.1 a (h.2.2.1 a), h.2.2.2) = h
  rw [am_ud_id]
theorem am_fj_0 (h : AH) (w o : Nat) (F : Nat → Int64) : am_fj h w o 0 F = h := am_rJ_id (by funext k; rw [if_neg (by omega)])
theorem am_sJ_J {h : AH} {b k : Nat} {v : Int64} : am_J (am_sJ h b k v) b = am_ud (am_J h b) k v := am_ud_eq
theorem am_sJ_ne {h : AH} {b k d : Nat} {v : Int64} (hd : d ≠ b) : am_J (am_sJ h b k v) d = am_J h d := am_ud_ne hd
theorem am_rJ_J {h : AH} {b : Nat} {f : Nat → Int64} : am_J (am_rJ h b f) b = f := am_ud_eq
theorem am_rJ_ne {h : AH} {b d : Nat} {f : Nat → Int64} (hd : d ≠ b) : am_J (am_rJ h b f) d = am_J h d := am_ud_ne hd
theorem am_fj_J {h : AH} {w o n : Nat} {F : Nat → Int64} : am_J (am_fj h w o n F) w = fun k => if o ≤ k ∧ k < o + n then F (k - o) else am_J h w k := am_ud_eq
theorem am_fj_ne {h : AH} {w o n b : Nat} {F : Nat → Int64} (hb : b ≠ w) : am_J (am_fj h w o n F) b = am_J h b := am_ud_ne hb
theorem am_extJ {h h' : AH} (e1 : h.1 = h'.1) (e2 : am_I h = am_I h') (e3 : ∀ b k, am_J h b k = am_J h' b k) (e4 : am_R h = am_R h') : h = h' := by
  have e : am_J h = am_J h' := by funext b k; exact e3 b k
  obtain ⟨a1, a2, a3, a4⟩ := h
  obtain ⟨b1, b2, b3, b4⟩ := h'
  have f1 : a1 = b1 := e1
  have f2 : a2 = b2 := e2
  have f3 : a3 = b3 := e
  have f4 : a4 = b4 := e4
  rw [f1, f2, f3, f4]
theorem am_fj_s (h : AH) (w o j : Nat) (F : Nat → Int64) : am_sJ (am_fj h w o j F) w (o + j) (F j) = am_fj h w o (j + 1) F := by
  refine am_extJ rfl rfl (fun b k => ?_) rfl
  by_cases e : b = w
  · subst e
    rw [am_sJ_J, am_fj_J, am_fj_J]
    by_cases e2 : k = o + j
    · subst e2
      rw [am_ud_eq]
      dsimp only
      rw [if_pos (by omega), show o + j - o = j by omega]
    · rw [am_ud_ne e2]
      dsimp only
      by_cases e3 : o ≤ k ∧ k < o + j
      · rw [if_pos e3, if_pos (by omega)]
      · rw [if_neg e3, if_neg (by omega)]
  · rw [am_sJ_ne e, am_fj_ne e, am_fj_ne e]
theorem am_fr_fj {h : AH} {w o n : Nat} {F : Nat → Int64} {P : Nat → Prop} (hb : P w) : am_fr h (am_fj h w o n F) P := am_fr_rJ hb
theorem am_fr_sJ {h : AH} {w k : Nat} {v : Int64} {P : Nat → Prop} (hb : P w) : am_fr h (am_sJ h w k v) P := am_fr_rJ hb
section xt2
variable {h : AH} {b : Nat}
theorem x_setNext {k : Nat} (m : xL h b) (hk : k < 768) (v : Int64) : am_ev 21 0 [.ref 6, .int (nI k), .long v, am_ph] [] h = some (none, am_sJ h (8 - b) k v) := by
  rw [am_b21_0, if_neg (nI_pos (by omega)), if_pos m.k, m.nw, x_oe, if_pos (by rw [m.knw]; omega), m.lnw, if_pos (by rw [x_len (by omega) (by omega)]; exact hk), if_pos m.k, x_oe, x_cl (by omega), if_pos ⟨m.knw, fun z => z.elim (nI_pos (by omega)) (by rw [m.lnw]; omega)⟩]
theorem x_finish {n : Nat} (m : xL h b) (hn : n < 128) (e : am_I h 6 1 = nI n) (v : Int32) : am_ev 22 0 [.ref 6, .int v] [] h = some (none, am_sI (am_sI h (10 - b) n v) 6 1 (nI (n + 1))) := by
  have hb := m.1
  have k2 : am_kd (am_sI h (10 - b) n v) 6 = 0 := m.k
  have e2 : am_I (am_sI h (10 - b) n v) 6 1 = nI n := by rw [am_sI_ne (by omega)]; exact e
  rw [am_b22_0, if_pos m.k, e, if_neg (nI_pos (by omega)), if_pos m.k, if_pos m.k, m.nt, x_oe, if_pos (by rw [m.knt]; omega), m.lnt, if_pos (by rw [x_len (by omega) (by omega)]; exact hn), if_pos m.k, x_oe, if_pos m.k, x_cl (by omega), if_pos ⟨m.knt, fun z => z.elim (nI_pos (by omega)) (by rw [m.lnt]; omega)⟩]
  try dsimp only
  rw [if_pos k2, if_pos k2, e2, nI_1]
theorem x_start {n : Nat} (m : xL h b) (e : am_I h 6 1 = nI n) : am_ev 20 0 [.ref 6] [] h = some (some (.int (nI (6 * n))), h) := by
  rw [am_b20_0, if_pos m.k, e, x_c6, pk_mul, Nat.mul_comm]
/-- a vector more in the list that is being laid -/
def xp (h : AH) (b n : Nat) (F : Nat → Int64) (v : Int32) : AH := am_sI (am_sI (am_fj h (8 - b) (6 * n) 6 F) (10 - b) n v) 6 1 (nI (n + 1))
def xQ (b : Nat) (a : Nat) : Prop := a = 8 - b ∨ a = 10 - b ∨ a = 6
theorem xp_fr {n : Nat} {F : Nat → Int64} {v : Int32} : am_fr h (xp h b n F v) (xQ b) := ((am_fr_fj (Or.inl rfl)).tr (am_sI_fr (Or.inr (Or.inl rfl)))).tr (am_sI_fr (Or.inr (Or.inr rfl)))
theorem xQ_rng {b : Nat} (hb : b ≤ 1) : ∀ a, xQ b a → 6 ≤ a ∧ a < 15 := fun a z => by unfold xQ at z; omega
/-- what is written there leaves the list that counts, the slacks, the sums, the losses -/
theorem xC.fr {h1 : AH} {N : Nat} {E : Nat → Nat → Int64} {τ : Nat → Nat} (X : xC h b N E τ) (f : am_fr h h1 (xQ b)) (e : am_I h1 6 0 = am_I h 6 0) : xC h1 b N E τ := by
  obtain ⟨m, x1, x2, x3, x4⟩ := X
  have hb := m.1
  refine ⟨m.fr f, e.trans x1, x2, fun i hi k hk => ?_, fun i hi => ?_⟩
  · rw [f.2.2.2 (7 + b) (fun z => by unfold xQ at z; omega)]; exact x3 i hi k hk
  · rw [f.2.2.1 (9 + b) (fun z => by unfold xQ at z; omega)]; exact x4 i hi
theorem xp_6 {n : Nat} {F : Nat → Int64} {v : Int32} (hb : b ≤ 1) {k : Nat} (hk : k ≠ 1) : am_I (xp h b n F v) 6 k = am_I h 6 k := by
  unfold xp
  rw [am_sI_I, am_ud_ne hk, am_sI_ne (by omega)]
  rfl
theorem xN.push {n : Nat} {E : Nat → Nat → Int64} {τ : Nat → Nat} (Y : xN h b n E τ) (hb : b ≤ 1) (hn : n < 128) (F : Nat → Int64) (v : Nat) : xN (xp h b n F (nI v)) b (n + 1) (fun i => if i = n then F else E i) (fun i => if i = n then v else τ i) := by
  obtain ⟨y1, y2, y3, y4⟩ := Y
  refine ⟨?_, by omega, fun i hi k hk => ?_, fun i hi => ?_⟩
  · unfold xp
    rw [am_sI_I, am_ud_eq]
  · have e : am_J (xp h b n F (nI v)) (8 - b) = am_J (am_fj h (8 - b) (6 * n) 6 F) (8 - b) := rfl
    rw [e, am_fj_J]
    dsimp only
    by_cases ei : i = n
    · rw [if_pos ei, ei, if_pos (by omega), show 6 * n + k - 6 * n = k by omega]
    · rw [if_neg ei, if_neg (by omega)]
      exact y3 i (by omega) k hk
  · have e : am_I (xp h b n F (nI v)) (10 - b) = am_ud (am_I h (10 - b)) n (nI v) := by
      unfold xp
      rw [am_sI_ne (by omega), am_sI_I]
      rfl
    rw [e]
    dsimp only
    by_cases ei : i = n
    · rw [if_pos ei, ei, am_ud_eq]
    · rw [if_neg ei, am_ud_ne ei]
      exact y4 i (by omega)
/-- the two lists change places -/
theorem x_turn {n : Nat} {E' : Nat → Nat → Int64} {τ' : Nat → Nat} (m : xL h b) (Y : xN h b n E' τ') : ∃ h1, am_ev 23 0 [.ref 6, am_ph, am_ph] [] h = some (none, h1) ∧ xC h1 (1 - b) n E' τ' ∧ xF h h1 := by
  have hb := m.1
  obtain ⟨y1, y2, y3, y4⟩ := Y
  have hk : ∀ M : AH, M.1 = h.1 → am_kd M 6 = 0 := fun M e => by unfold am_kd; rw [e]; exact m.k
  generalize e1 : am_sR h 6 2 (some (8 - b)) = h1
  have t1 : h1.1 = h.1 := by rw [← e1]; rfl
  generalize e2 : am_sR h1 6 3 (some (7 + b)) = h2
  have t2 : h2.1 = h.1 := by rw [← e2]; exact t1
  have r4 : am_R h2 6 4 = some (9 + b) := by rw [← e2, am_sR_R, am_ud_ne (by omega), ← e1, am_sR_R, am_ud_ne (by omega)]; exact m.t
  have r5 : am_R h2 6 5 = some (10 - b) := by rw [← e2, am_sR_R, am_ud_ne (by omega), ← e1, am_sR_R, am_ud_ne (by omega)]; exact m.nt
  generalize e3 : am_sR h2 6 4 (some (10 - b)) = h3
  have t3 : h3.1 = h.1 := by rw [← e3]; exact t2
  generalize e4 : am_sR h3 6 5 (some (9 + b)) = h4
  have t4 : h4.1 = h.1 := by rw [← e4]; exact t3
  have i4 : am_I h4 = am_I h ∧ am_J h4 = am_J h := by rw [← e4, ← e3, ← e2, ← e1]; exact ⟨rfl, rfl⟩
  refine ⟨am_sI h4 6 0 (nI n), ?_, ⟨?_, by rw [am_sI_I, am_ud_eq], y2, fun i hi k hk => ?_, fun i hi => ?_⟩, ?_⟩
  · rw [am_b23_0, if_pos m.k, m.w, x_oe, if_pos m.k, m.nw, x_oe, if_pos m.k]
    try dsimp only
    rw [e1, if_pos (hk h1 t1), e2, if_pos (hk h2 t2), r4, x_oe, if_pos (hk h2 t2), r5, x_oe, if_pos (hk h2 t2), e3, if_pos (hk h3 t3), e4, if_pos (hk h4 t4), if_pos (hk h4 t4), i4.1, y1]
  · have R6 : am_R h4 6 = am_ud (am_ud (am_ud (am_ud (am_R h 6) 2 (some (8 - b))) 3 (some (7 + b))) 4 (some (10 - b))) 5 (some (9 + b)) := by
      rw [← e4, am_sR_R, ← e3, am_sR_R, ← e2, am_sR_R, ← e1, am_sR_R]
    have kd : ∀ a, am_kd (am_sI h4 6 0 (nI n)) a = am_kd h a ∧ am_ln (am_sI h4 6 0 (nI n)) a = am_ln h a := fun a => by
      show am_kd h4 a = _ ∧ am_ln h4 a = _
      unfold am_kd am_ln
      rw [t4]
      exact ⟨rfl, rfl⟩
    obtain ⟨m1, m2, m3, m4, m5, m6, m7, m8, m9, m10, m11⟩ := m
    unfold xL
    simp only [kd]
    rw [x_RI, R6]
    simp only [am_ud_ne (show (2 : Nat) ≠ 5 by omega), am_ud_ne (show (2 : Nat) ≠ 4 by omega), am_ud_ne (show (2 : Nat) ≠ 3 by omega), am_ud_ne (show (3 : Nat) ≠ 5 by omega), am_ud_ne (show (3 : Nat) ≠ 4 by omega), am_ud_ne (show (4 : Nat) ≠ 5 by omega), am_ud_eq, am_ud_ne (show (6 : Nat) ≠ 5 by omega), am_ud_ne (show (6 : Nat) ≠ 4 by omega), am_ud_ne (show (6 : Nat) ≠ 3 by omega), am_ud_ne (show (6 : Nat) ≠ 2 by omega), am_ud_ne (show (7 : Nat) ≠ 5 by omega), am_ud_ne (show (7 : Nat) ≠ 4 by omega), am_ud_ne (show (7 : Nat) ≠ 3 by omega), am_ud_ne (show (7 : Nat) ≠ 2 by omega), am_ud_ne (show (8 : Nat) ≠ 5 by omega), am_ud_ne (show (8 : Nat) ≠ 4 by omega), am_ud_ne (show (8 : Nat) ≠ 3 by omega), am_ud_ne (show (8 : Nat) ≠ 2 by omega), am_ud_ne (show (10 : Nat) ≠ 5 by omega), am_ud_ne (show (10 : Nat) ≠ 4 by omega), am_ud_ne (show (10 : Nat) ≠ 3 by omega), am_ud_ne (show (10 : Nat) ≠ 2 by omega)]
    exact ⟨by omega, m2, by rw [show 7 + (1 - b) = 8 - b by omega], by rw [show 8 - (1 - b) = 7 + b by omega], by rw [show 9 + (1 - b) = 10 - b by omega], by rw [show 10 - (1 - b) = 9 + b by omega], m7, m8, m9, m10, m11⟩
  · show am_J h4 _ _ = _
    rw [i4.2, show 7 + (1 - b) = 8 - b by omega]
    exact y3 i hi k hk
  · rw [am_sI_ne (by omega), i4.1, show 9 + (1 - b) = 10 - b by omega]
    exact y4 i hi
  · refine ⟨t4, fun a ha => ⟨?_, ?_, ?_⟩⟩
    · rw [am_sI_ne (by omega), i4.1]
    · show am_J h4 a = _
      rw [i4.2]
    · show am_R h4 a = _
      rw [← e4, am_sR_ne (by omega), ← e3, am_sR_ne (by omega), ← e2, am_sR_ne (by omega), ← e1, am_sR_ne (by omega)]
/-- a vector that is kept -/
theorem x_keep {N n i w : Nat} {E E' : Nat → Nat → Int64} {τ τ' : Nat → Nat} (X : xC h b N E τ) (Y : xN h b n E' τ') (hi : i < N) (hn : n < 128) : am_ev 17 0 [.ref 6, .int (nI i), .int (nI w), am_ph, am_ph] [] h = some (none, xp h b n (E i) (nI (τ i) ||| nI w)) := by
  have m := X.1
  have hb := m.1
  have key : ∀ d j, j + d = 6 → am_ev 17 8 [.ref 6, .int (nI i), .int (nI w), .int (nI (6 * n)), .int (nI j)] [] (am_fj h (8 - b) (6 * n) j (E i)) = some (none, xp h b n (E i) (nI (τ i) ||| nI w)) := by
    intro d
    induction d with
    | zero =>
      intro j hj
      have f : am_fr h (am_fj h (8 - b) (6 * n) j (E i)) (xQ b) := am_fr_fj (Or.inl rfl)
      have X2 := X.fr f rfl
      rw [am_b17_8, x_c6, if_neg (by rw [x_lt (by omega) (by omega)]; omega), if_pos X2.1.k, x_tightAt X2 hi, x_bI, if_pos X2.1.k, x_finish X2.1 hn (show am_I (am_fj h (8 - b) (6 * n) j (E i)) 6 1 = nI n from Y.1), x_bV, show j = 6 by omega]
      rfl
    | succ d ih =>
      intro j hj
      have f : am_fr h (am_fj h (8 - b) (6 * n) j (E i)) (xQ b) := am_fr_fj (Or.inl rfl)
      have X2 := X.fr f rfl
      rw [am_b17_8, x_c6, if_pos (by rw [x_lt (by omega) (by omega)]; omega), if_pos X2.1.k, x_weight X2 hi (by omega), x_bJ, if_pos X2.1.k, nI_add, x_setNext X2.1 (by omega), x_bV, nI_1, am_fj_s]
      exact ih (j + 1) (by omega)
  have k0 := key 6 0 (by omega)
  rw [am_fj_0, nI_0] at k0
  rw [am_b17_0, if_pos m.k, x_start m Y.1, x_bI]
  exact k0
end xt2
