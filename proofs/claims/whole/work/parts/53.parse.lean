/-! ===== texts: a reader that goes character by character, and the Model's reading ===== -/
/-- due, row, cells of the row, player, negative, columns, numbers -/
abbrev QP : Type := Nat × Nat × Nat × Nat × Nat × Nat × (Nat → Nat → Nat → Int32)
def p_set (N : Nat → Nat → Nat → Int32) (p r k : Nat) (v : Int32) : Nat → Nat → Nat → Int32 := fun p' r' k' => if p' = p ∧ r' = r ∧ k' = k then v else N p' r' k'
def p_dig (r k p g c : Nat) (N : Nat → Nat → Nat → Int32) (ch : Int32) : Option QP := if 48 ≤ ch.toInt ∧ ch.toInt ≤ 57 then some (if p = 0 then 2 else 3, r, if p = 0 then k else k + 1, p, 0, c, p_set N p r k (if g = 0 then ch - 48 else 48 - ch)) else none
def p_step : QP → Int32 → Option QP
  | (0, r, k, p, g, c, N), ch => if ch = nI 45 then some (1, r, k, p, 1, c, N) else p_dig r k p g c N ch
  | (1, r, k, p, g, c, N), ch => p_dig r k p g c N ch
  | (2, r, k, _, g, c, N), ch => if ch = nI 44 then some (0, r, k, 1, g, c, N) else none
  | (_, r, k, _, g, c, N), ch => if ch = nI 47 then (if r ≠ 0 ∨ k < 2 then none else some (0, 1, 0, 0, g, k, N)) else if ch = nI 59 then (if (if r = 0 then 3 else c) ≤ k then none else some (0, r, k, 0, g, c, N)) else none
def p_run (t : Nat → Int32) : Nat → Nat → QP → Int32 × QP
  | 0, i, s => (if s.1 = 3 ∧ s.2.1 = 1 ∧ s.2.2.1 = s.2.2.2.2.2.1 then -6 else nI i, s)
  | d + 1, i, s => match p_step s (t i) with
    | none => (nI i, s)
    | some s' => p_run t d (i + 1) s'
theorem p_step0 (r k p g c : Nat) (N : Nat → Nat → Nat → Int32) (ch : Int32) : p_step (0, r, k, p, g, c, N) ch = if ch = nI 45 then some (1, r, k, p, 1, c, N) else p_dig r k p g c N ch := rfl
theorem p_step1 (r k p g c : Nat) (N : Nat → Nat → Nat → Int32) (ch : Int32) : p_step (1, r, k, p, g, c, N) ch = p_dig r k p g c N ch := rfl
theorem p_step2 (r k p g c : Nat) (N : Nat → Nat → Nat → Int32) (ch : Int32) : p_step (2, r, k, p, g, c, N) ch = if ch = nI 44 then some (0, r, k, 1, g, c, N) else none := rfl
theorem p_step3 (r k p g c : Nat) (N : Nat → Nat → Nat → Int32) (ch : Int32) : p_step (3, r, k, p, g, c, N) ch = if ch = nI 47 then (if r ≠ 0 ∨ k < 2 then none else some (0, 1, 0, 0, g, k, N)) else if ch = nI 59 then (if (if r = 0 then 3 else c) ≤ k then none else some (0, r, k, 0, g, c, N)) else none := rfl
theorem x_c44 : (44 : Int32) = nI 44 := Eq.trans rfl rfl
theorem x_c45 : (45 : Int32) = nI 45 := Eq.trans rfl rfl
theorem x_c47 : (47 : Int32) = nI 47 := Eq.trans rfl rfl
theorem x_c59 : (59 : Int32) = nI 59 := Eq.trans rfl rfl
theorem p_run_s {t : Nat → Int32} {n i : Nat} {s : QP} (hi : i < n) : p_run t (n - i) i s = match p_step s (t i) with
    | none => (nI i, s)
    | some s' => p_run t (n - (i + 1)) (i + 1) s' := by
  rw [show n - i = (n - (i + 1)) + 1 by omega]
  rfl
theorem p_run_n {t : Nat → Int32} {n : Nat} {s : QP} : p_run t (n - n) n s = (if s.1 = 3 ∧ s.2.1 = 1 ∧ s.2.2.1 = s.2.2.2.2.2.1 then -6 else nI n, s) := by
  rw [Nat.sub_self]
  rfl
/-- the reading touches the numbers, the row lengths and the spot alone -/
def mT (h h1 : AH) : Prop := h1.1 = h.1 ∧ am_R h1 = am_R h ∧ am_J h1 = am_J h ∧ (∀ b, b ≠ 20 → b ≠ 32 → b ≠ 33 → am_I h1 b = am_I h b) ∧ ∀ k, k ≠ 20 → am_I h1 20 k = am_I h 20 k
theorem mT.rf {h : AH} : mT h h := ⟨rfl, rfl, rfl, fun _ _ _ _ => rfl, fun _ _ => rfl⟩
theorem mT.tr {h h1 h2 : AH} (a : mT h h1) (b : mT h1 h2) : mT h h2 := ⟨b.1.trans a.1, b.2.1.trans a.2.1, b.2.2.1.trans a.2.2.1, fun c c1 c2 c3 => (b.2.2.2.1 c c1 c2 c3).trans (a.2.2.2.1 c c1 c2 c3), fun k hk => (b.2.2.2.2 k hk).trans (a.2.2.2.2 k hk)⟩
theorem mT.sp {h : AH} {v : Int32} : mT h (am_sI h 20 20 v) := ⟨rfl, rfl, rfl, fun b h1 _ _ => am_sI_ne h1, fun k hk => by rw [am_sI_I, am_ud_ne hk]⟩
theorem mT.nu {h : AH} {k : Nat} {v : Int32} : mT h (am_sI h 32 k v) := ⟨rfl, rfl, rfl, fun b _ h1 _ => am_sI_ne h1, fun k hk => by rw [am_sI_ne (by omega)]⟩
theorem mT.ro {h : AH} {k : Nat} {v : Int32} : mT h (am_sI h 33 k v) := ⟨rfl, rfl, rfl, fun b _ _ h1 => am_sI_ne h1, fun k hk => by rw [am_sI_ne (by omega)]⟩
theorem mT.I {h h1 : AH} {A : QA} (T : mT h h1) (I : mI h A) : mI h1 A := I.row T.1 T.2.1 (T.2.2.2.1 21 (by omega) (by omega) (by omega)) I.2.1 I.c3 (T.2.2.2.1 22 (by omega) (by omega) (by omega)) (T.2.2.2.1 23 (by omega) (by omega) (by omega)) (T.2.2.2.1 24 (by omega) (by omega) (by omega)) (T.2.2.2.1 31 (by omega) (by omega) (by omega)) (T.2.2.2.2 2 (by omega)) (T.2.2.2.2 17 (by omega))
theorem mT.fr {h h1 : AH} (T : mT h h1) : mfr h h1 := ⟨T.1, T.2.1, fun b hb => T.2.2.2.1 b (by omega) (by omega) (by omega), fun b _ => by rw [T.2.2.1]⟩
theorem mT.xk {h h1 : AH} (T : mT h h1) : mxk h h1 := ⟨T.2.2.2.2 10 (by omega), T.2.2.2.2 11 (by omega), by rw [T.2.2.1], by rw [T.2.2.1]⟩
theorem am_sI_id {h : AH} {b k : Nat} {v : Int32} (e : am_I h b k = v) : am_sI h b k v = h := by
  rw [← e]
  unfold am_sI
  rw [am_ud_id, am_rI_id]
section parse
variable {h : AH} {A : QA}
theorem mI.t (I : mI h A) {k : Nat} (hk : k < A.2.2.2.1) : am_I h 31 k = A.2.2.2.2 k := I.2.2.2.2.2.2.2 k hk
theorem mI.pn (I : mI h A) : am_I h 20 17 = nI A.2.2.2.1 ∧ A.2.2.2.1 ≤ 60 := ⟨I.2.2.2.2.2.1, I.2.2.2.2.2.2.1⟩
theorem m_takes (I : mI h A) {i : Nat} (hi : i ≤ A.2.2.2.1) (e : am_I h 20 20 = nI i) (ch : Int32) : am_ev 139 0 [.ref 20, .int ch, am_ph] [] h = if i < A.2.2.2.1 ∧ A.2.2.2.2 i = ch then some (some (.int 1), am_sI h 20 20 (nI (i + 1))) else some (some (.int 0), h) := by
  have m := I.1
  have pn := I.pn
  have e0 : am_ev 139 29 [.ref 20, am_ph, am_ph] [.int 0] h = some (some (.int 0), h) := by
    rw [am_b139_29, if_pos m.k, if_pos rfl, if_pos m.k]
    try dsimp only
    rw [if_pos (by decide), Int32.add_zero, am_sI_id rfl]
  rw [am_b139_0, if_pos m.k, if_pos m.k, e, pn.1]
  simp only [x_lt (show i < 2147483648 by omega) (show A.2.2.2.1 < 2147483648 by omega)]
  by_cases h1 : i < A.2.2.2.1
  · rw [if_pos h1, if_pos m.k, m.r16, x_oe, if_pos m.k, if_pos (x_rd m.k16 m.l16 (by omega) (by omega)), x_cl (by omega), I.t h1]
    by_cases h2 : A.2.2.2.2 i = ch
    · rw [if_pos h2, if_pos ⟨h1, h2⟩, am_b139_29, if_pos m.k, if_neg (by decide), if_pos m.k]
      try dsimp only
      rw [if_pos (by decide), e, nI_1]
    · rw [if_neg h2, if_neg (fun z => h2 z.2), e0]
  · rw [if_neg h1, if_neg (fun z => h1 z.1), e0]
/-- a number, from a place where one is due -/
theorem m_reads (I : mI h A) {i r k p c to : Nat} {N : Nat → Nat → Nat → Int32} (hto : to < 12) (hi : i ≤ A.2.2.2.1) (e : am_I h 20 20 = nI i) : (∃ j v, am_ev 140 0 [.ref 20, .int (nI to), am_ph] [] h = some (some (.int 1), am_sI (am_sI h 32 to v) 20 20 (nI j)) ∧ j ≤ A.2.2.2.1 ∧ p_run A.2.2.2.2 (A.2.2.2.1 - i) i (0, r, k, p, 0, c, N) = p_run A.2.2.2.2 (A.2.2.2.1 - j) j (if p = 0 then 2 else 3, r, if p = 0 then k else k + 1, p, 0, c, p_set N p r k v)) ∨ (∃ j s, am_ev 140 0 [.ref 20, .int (nI to), am_ph] [] h = some (some (.int 0), am_sI h 20 20 (nI j)) ∧ j ≤ A.2.2.2.1 ∧ p_run A.2.2.2.2 (A.2.2.2.1 - i) i (0, r, k, p, 0, c, N) = (nI j, s)) := by
  have m := I.1
  have pn := I.pn
  have e78 : ∀ (h : AH) (v : Int32) (j : Nat), mL h → am_I h 20 20 = nI j → am_ev 140 78 [.ref 20, am_ph, am_ph] [.int v, .int (nI to), .ref 32] h = some (some (.int 1), am_sI (am_sI h 32 to v) 20 20 (nI (j + 1))) := by
    intro h v j m e
    have e2 : am_I (am_sI h 32 to v) 20 20 = nI j := by rw [am_sI_ne (by omega)]; exact e
    rw [am_b140_78, if_pos (x_wr m.k18 m.l18 (by omega) (by omega)), x_cl (by omega)]
    try dsimp only
    rw [if_pos m.sI.k, if_pos m.sI.k, e2, nI_1]
  have ein : ∀ (h : AH) (x : Int32), am_ev 96 0 [.long (Int32.toInt64 x), am_ph, .long (48 : Int64), am_ph, .long (57 : Int64), am_ph] [] h = some (some (.int (if 48 ≤ x.toInt ∧ x.toInt ≤ 57 then 1 else 0)), h) := fun h x => m_in rfl rfl
  rw [am_b140_0, if_pos m.k, x_c45, m_takes I hi e]
  by_cases h1 : i < A.2.2.2.1 ∧ A.2.2.2.2 i = nI 45
  · rw [if_pos h1, x_bI]
    have T : mT h (am_sI h 20 20 (nI (i + 1))) := mT.sp
    have I2 := T.I I
    have m2 := I2.1
    have pn2 := I2.pn
    have e2 : am_I (am_sI h 20 20 (nI (i + 1))) 20 20 = nI (i + 1) := by rw [am_sI_I, am_ud_eq]
    have er : p_run A.2.2.2.2 (A.2.2.2.1 - i) i (0, r, k, p, 0, c, N) = p_run A.2.2.2.2 (A.2.2.2.1 - (i + 1)) (i + 1) (1, r, k, p, 1, c, N) := by
      rw [p_run_s h1.1, p_step0, if_pos h1.2]
    rw [er]
    have hm : ∀ v y, am_sI (am_sI (am_sI h 20 20 (nI (i + 1))) 32 to v) 20 20 y = am_sI (am_sI h 32 to v) 20 20 y := by
      intro v y
      refine am_ext rfl (fun b z => ?_) rfl rfl
      by_cases b1 : b = 20
      · subst b1
        simp only [x_I', x_ud']
        simp [x_ud']
        by_cases z1 : z = 20 <;> simp [z1]
      · simp only [x_I', x_ud', if_neg b1, show ¬ (32 : Nat) = 20 by decide, if_false]
    rw [if_pos m2.k, if_pos m2.k, e2, pn2.1]
    simp only [x_lt (show i + 1 < 2147483648 by omega) (show A.2.2.2.1 < 2147483648 by omega)]
    by_cases h2 : i + 1 < A.2.2.2.1
    · rw [if_pos h2, if_pos m2.k, m2.r16, x_oe, if_pos m2.k, if_pos (x_rd m2.k16 m2.l16 (by omega) (by omega)), x_cl (by omega), I2.t h2, ein, x_bI, x_ite]
      by_cases h3 : 48 ≤ (A.2.2.2.2 (i + 1)).toInt ∧ (A.2.2.2.2 (i + 1)).toInt ≤ 57
      · left
        rw [if_pos h3, if_pos m2.k, m2.r18, x_oe, if_neg (by decide), if_pos m2.k, m2.r16, x_oe, if_pos m2.k, e2, if_pos (x_rd m2.k16 m2.l16 (by omega) (by omega)), x_cl (by omega), I2.t h2, e78 _ _ (i + 1) m2 e2, hm]
        refine ⟨i + 1 + 1, _, rfl, by omega, ?_⟩
        rw [p_run_s h2, p_step1]
        unfold p_dig
        rw [if_pos h3]
        rfl
      · right
        rw [if_neg h3]
        refine ⟨i + 1, (1, r, k, p, 1, c, N), rfl, by omega, ?_⟩
        rw [p_run_s h2, p_step1]
        unfold p_dig
        rw [if_neg h3]
    · right
      rw [if_neg h2]
      refine ⟨i + 1, (1, r, k, p, 1, c, N), rfl, by omega, ?_⟩
      obtain hn : i + 1 = A.2.2.2.1 := by omega
      rw [hn, p_run_n, if_neg (by simp)]
  · rw [if_neg h1, x_bI, if_pos m.k, if_pos m.k, e, pn.1]
    simp only [x_lt (show i < 2147483648 by omega) (show A.2.2.2.1 < 2147483648 by omega)]
    by_cases h2 : i < A.2.2.2.1
    · have h45 : ¬ A.2.2.2.2 i = nI 45 := fun z => h1 ⟨h2, z⟩
      rw [if_pos h2, if_pos m.k, m.r16, x_oe, if_pos m.k, if_pos (x_rd m.k16 m.l16 (by omega) (by omega)), x_cl (by omega), I.t h2, ein, x_bI, x_ite]
      by_cases h3 : 48 ≤ (A.2.2.2.2 i).toInt ∧ (A.2.2.2.2 i).toInt ≤ 57
      · left
        rw [if_pos h3, if_pos m.k, m.r18, x_oe, if_pos trivial, if_pos m.k, m.r16, x_oe, if_pos m.k, e, if_pos (x_rd m.k16 m.l16 (by omega) (by omega)), x_cl (by omega), I.t h2, e78 _ _ i m e]
        refine ⟨i + 1, _, rfl, by omega, ?_⟩
        rw [p_run_s h2, p_step0, if_neg h45]
        unfold p_dig
        rw [if_pos h3]
        rfl
      · right
        rw [if_neg h3]
        refine ⟨i, (0, r, k, p, 0, c, N), by rw [am_sI_id e], by omega, ?_⟩
        rw [p_run_s h2, p_step0, if_neg h45]
        unfold p_dig
        rw [if_neg h3]
    · right
      rw [if_neg h2]
      refine ⟨i, (0, r, k, p, 0, c, N), by rw [am_sI_id e], by omega, ?_⟩
      obtain hn : i = A.2.2.2.1 := by omega
      rw [hn, p_run_n, if_neg (by simp)]
end parse
