/-! ===== the Model's reading: rows, faults ===== -/
def p_w (h : AH) (N : Nat → Nat → Nat → Int32) (r k : Nat) : Prop := ∀ p, p < 2 → ∀ j, j < k → am_I h 32 (6 * p + 3 * r + j) = N p r j
/-- what a row's reading comes to -/
def p_res (A : QA) (h : AH) (r c i : Nat) (s : QP) (ev : AR) : Prop := ∃ b j h2, ev = some (some (.int b), h2) ∧ mT h h2 ∧ am_I h2 20 20 = nI j ∧ j ≤ A.2.2.2.1 ∧ ((b = 0 ∧ (p_run A.2.2.2.2 (A.2.2.2.1 - i) i s).1 = nI j) ∨ (b = 1 ∧ r = 0 ∧ ∃ c' N', (2 ≤ c' ∧ c' ≤ 3) ∧ p_run A.2.2.2.2 (A.2.2.2.1 - i) i s = p_run A.2.2.2.2 (A.2.2.2.1 - j) j (0, 1, 0, 0, 0, c', N') ∧ am_I h2 33 0 = nI c' ∧ p_w h2 N' 0 c') ∨ (b = 1 ∧ r = 1 ∧ ∃ N', p_run A.2.2.2.2 (A.2.2.2.1 - i) i s = (-6, (3, 1, c, 1, 0, c, N')) ∧ am_I h2 33 0 = nI c ∧ p_w h2 N' 0 c ∧ p_w h2 N' 1 c))
theorem p_res.of {A : QA} {h h1 : AH} {r c i i1 : Nat} {s s1 : QP} {ev : AR} (x : p_res A h1 r c i1 s1 ev) (T : mT h h1) (e : p_run A.2.2.2.2 (A.2.2.2.1 - i) i s = p_run A.2.2.2.2 (A.2.2.2.1 - i1) i1 s1) : p_res A h r c i s ev := by
  obtain ⟨b, j, h2, e1, T2, e3, e4, e5⟩ := x
  refine ⟨b, j, h2, e1, T.tr T2, e3, e4, ?_⟩
  rw [e]
  exact e5
theorem p_res.no {A : QA} {h h1 : AH} {r c i j : Nat} {s : QP} (T : mT h h1) (e1 : am_I h1 20 20 = nI j) (e2 : j ≤ A.2.2.2.1) (e3 : (p_run A.2.2.2.2 (A.2.2.2.1 - i) i s).1 = nI j) : p_res A h r c i s (some (some (.int 0), h1)) := ⟨0, j, h1, rfl, T, e1, e2, Or.inl ⟨rfl, e3⟩⟩
/-- a step that can't be done ends the run where it stands -/
theorem p_run_no {t : Nat → Int32} {n i : Nat} {s : QP} (hi : i ≤ n) (h1 : i < n → p_step s (t i) = none) (h2 : i = n → ¬ (s.1 = 3 ∧ s.2.1 = 1 ∧ s.2.2.1 = s.2.2.2.2.2.1)) : (p_run t (n - i) i s).1 = nI i := by
  by_cases e : i < n
  · rw [p_run_s e, h1 e]
  · obtain rfl : i = n := by omega
    rw [p_run_n, if_neg (h2 rfl)]
theorem x_rd0 {h : AH} {a L : Nat} (hk : am_kd h a = 5) (hl : am_ln h a = L) (h1 : 0 < L) : (am_kd h a = 5 ∨ am_kd h a = 9) ∧ ¬ ((0 : Int32) < 0 ∨ am_ln h a ≤ (0 : Int32).toNatClampNeg) := x_rd (k := 0) hk hl h1 (by omega)
section parse2
variable {h : AH} {A : QA}
theorem m_rowEnd (I : mI h A) {i r k c : Nat} {N : Nat → Nat → Nat → Int32} (hr : r = 0 ∨ r = 1) (hi : i ≤ A.2.2.2.1) (e : am_I h 20 20 = nI i) (er : am_I h 33 r = nI (k + 1)) (hk : k < 3) (h1 : r = 1 → am_I h 33 0 = nI c ∧ k + 1 ≤ c ∧ c ≤ 3 ∧ p_w h N 0 c) (w : p_w h N r (k + 1)) (hno : i < A.2.2.2.1 → A.2.2.2.2 i = nI 59 → (if r = 0 then 3 else c) ≤ k + 1) : p_res A h r c i (3, r, k + 1, 1, 0, c, N) (am_ev 141 9 [.ref 20, .int (nI r), .int 0, am_ph] [] h) := by
  have m := I.1
  have pn := I.pn
  have no59 : ∀ X, (A.2.2.2.2 i = nI 47 → X = none) → i < A.2.2.2.1 → (if A.2.2.2.2 i = nI 47 then X else if A.2.2.2.2 i = nI 59 then (if (if r = 0 then 3 else c) ≤ k + 1 then none else some (0, r, k + 1, 0, 0, c, N)) else none) = (none : Option QP) := by
    intro X hX hn
    by_cases a : A.2.2.2.2 i = nI 47
    · rw [if_pos a, hX a]
    · rw [if_neg a]
      by_cases b : A.2.2.2.2 i = nI 59
      · rw [if_pos b, if_pos (hno hn b)]
      · rw [if_neg b]
  rw [am_b141_9, if_pos rfl]
  rcases hr with rfl | rfl
  · rw [if_pos (show nI 0 = 0 from rfl), if_pos m.k, m.r19, x_oe, if_pos (x_rd0 m.k19 m.l19 (by omega)), x_cl0, er, x_c1]
    simp only [x_lt (show 1 < 2147483648 by omega) (show k + 1 < 2147483648 by omega)]
    by_cases h2 : 1 < k + 1
    · rw [if_pos h2, if_pos m.k, x_c47, m_takes I hi e]
      by_cases h3 : i < A.2.2.2.1 ∧ A.2.2.2.2 i = nI 47
      · rw [if_pos h3, x_bI, if_neg (by decide)]
        refine ⟨1, i + 1, _, rfl, mT.sp, by rw [am_sI_I, am_ud_eq], by omega, Or.inr (Or.inl ⟨rfl, rfl, k + 1, N, ⟨by omega, by omega⟩, ?_, by rw [am_sI_ne (by omega)]; exact er, fun p hp j hj => by rw [am_sI_ne (by omega)]; exact w p hp j hj⟩)⟩
        rw [p_run_s h3.1, p_step3, if_pos h3.2, if_neg (by omega)]
      · rw [if_neg h3, x_bI, if_pos (by decide)]
        refine p_res.no mT.rf e hi (p_run_no hi (fun hn => ?_) (fun _ => by simp))
        rw [p_step3]
        exact no59 _ (fun z => absurd ⟨hn, z⟩ h3) hn
    · rw [if_neg h2]
      refine p_res.no mT.rf e hi (p_run_no hi (fun hn => ?_) (fun _ => by simp))
      rw [p_step3]
      exact no59 _ (fun z => by rw [if_pos (by omega)]) hn
  · obtain ⟨f1, f2, f3, f4⟩ := h1 rfl
    rw [if_neg (by decide), if_pos m.k, m.r19, x_oe, x_c1, if_pos (x_rd m.k19 m.l19 (by omega) (by omega)), if_pos m.k, x_oe, if_pos (x_rd0 m.k19 m.l19 (by omega)), x_cl0, x_cl (by omega), er, f1]
    simp only [x_eq (show k + 1 < 2147483648 by omega) (show c < 2147483648 by omega)]
    by_cases h2 : k + 1 = c
    · rw [if_pos h2, if_pos m.k, if_pos m.k, e, pn.1]
      simp only [x_eq (show i < 2147483648 by omega) (show A.2.2.2.1 < 2147483648 by omega)]
      by_cases h3 : i = A.2.2.2.1
      · rw [if_pos h3]
        refine ⟨nI 1, i, h, rfl, mT.rf, e, hi, Or.inr (Or.inr ⟨rfl, rfl, N, ?_, f1, f4, ?_⟩)⟩
        · rw [h3, p_run_n, if_pos ⟨rfl, rfl, h2⟩, h2]
        · rw [← h2]; exact w
      · rw [if_neg h3]
        refine p_res.no mT.rf e hi (p_run_no hi (fun hn => ?_) (fun z => absurd z h3))
        rw [p_step3]
        exact no59 _ (fun z => by rw [if_pos (by omega)]) hn
    · rw [if_neg h2]
      refine p_res.no mT.rf e hi (p_run_no hi (fun hn => ?_) (fun _ z => h2 z.2.2))
      rw [p_step3]
      exact no59 _ (fun z => by rw [if_pos (by omega)]) hn
theorem p_w.cp {h h1 : AH} {N N1 : Nat → Nat → Nat → Int32} {r k : Nat} (w : p_w h N r k) (e : ∀ p, p < 2 → ∀ j, j < k → am_I h1 32 (6 * p + 3 * r + j) = am_I h 32 (6 * p + 3 * r + j) ∧ N1 p r j = N p r j) : p_w h1 N1 r k := fun p hp j hj => by
  have := e p hp j hj
  rw [this.1, this.2]
  exact w p hp j hj
theorem p_set_ne {N : Nat → Nat → Nat → Int32} {p r k p' r' k' : Nat} {v : Int32} (h : ¬ (p' = p ∧ r' = r ∧ k' = k)) : p_set N p r k v p' r' k' = N p' r' k' := if_neg h
theorem p_set_eq {N : Nat → Nat → Nat → Int32} {p r k : Nat} {v : Int32} : p_set N p r k v p r k = v := if_pos ⟨rfl, rfl, rfl⟩
/-- a cell of a row: both numbers and the comma between them -/
theorem m_rowCell (I : mI h A) {i r k c : Nat} {N : Nat → Nat → Nat → Int32} (hr : r = 0 ∨ r = 1) (hk : k < 3) (hi : i ≤ A.2.2.2.1) (e : am_I h 20 20 = nI i) (er : am_I h 33 r = nI k) (h1 : r = 1 → am_I h 33 0 = nI c ∧ k + 1 ≤ c ∧ c ≤ 3 ∧ p_w h N 0 c) (w : p_w h N r k) : p_res A h r c i (0, r, k, 0, 0, c, N) (am_ev 141 9 [.ref 20, .int (nI r), .int 1, am_ph] [] h) ∨ ∃ i' N' h', am_ev 141 9 [.ref 20, .int (nI r), .int 1, am_ph] [] h = am_ev 141 84 [.ref 20, .int (nI r), am_ph, am_ph] [.int (if r = 0 then nI 3 else nI c), .int (nI (k + 1))] h' ∧ mT h h' ∧ i' ≤ A.2.2.2.1 ∧ am_I h' 20 20 = nI i' ∧ am_I h' 33 r = nI (k + 1) ∧ p_run A.2.2.2.2 (A.2.2.2.1 - i) i (0, r, k, 0, 0, c, N) = p_run A.2.2.2.2 (A.2.2.2.1 - i') i' (3, r, k + 1, 1, 0, c, N') ∧ p_w h' N' r (k + 1) ∧ (r = 1 → am_I h' 33 0 = nI c ∧ p_w h' N' 0 c) := by
  have m := I.1
  have hr2 : r < 2 := by omega
  rw [am_b141_9, if_neg (by decide), if_pos m.k, m.r19, x_oe, if_pos (x_rd m.k19 m.l19 (by omega) (by omega)), if_pos m.k, x_cl (by omega), er, x_c3, pk_mul, nI_add]
  have hto : 3 * r + k < 6 := by omega
  rcases m_reads (to := 3 * r + k) (r := r) (k := k) (p := 0) (c := c) (N := N) I (by omega) hi e with ⟨i1, v1, e1, hi1, r1⟩ | ⟨i1, s1, e1, hi1, r1⟩
  · rw [e1, x_bI, if_neg (by decide)]
    have T1 : mT h (am_sI (am_sI h 32 (3 * r + k) v1) 20 20 (nI i1)) := mT.nu.tr mT.sp
    revert T1
    generalize hh1 : am_sI (am_sI h 32 (3 * r + k) v1) 20 20 (nI i1) = h1'
    intro T1
    have I1 := T1.I I
    have m1 := I1.1
    have sp1 : am_I h1' 20 20 = nI i1 := by rw [← hh1, am_sI_I, am_ud_eq]
    have d1 : ∀ x, am_I h1' 32 x = if x = 3 * r + k then v1 else am_I h 32 x := fun x => by rw [← hh1, am_sI_ne (by omega), am_sI_I]; rfl
    have q1 : am_I h1' 33 = am_I h 33 := by rw [← hh1, am_sI_ne (by omega), am_sI_ne (by omega)]
    rw [if_pos m1.k, x_c44, m_takes I1 hi1 sp1]
    rw [if_pos rfl, if_pos rfl] at r1
    by_cases h2 : i1 < A.2.2.2.1 ∧ A.2.2.2.2 i1 = nI 44
    · rw [if_pos h2, x_bI, if_neg (by decide)]
      have T2 : mT h1' (am_sI h1' 20 20 (nI (i1 + 1))) := mT.sp
      revert T2
      generalize hh2 : am_sI h1' 20 20 (nI (i1 + 1)) = h2'
      intro T2
      have I2 := T2.I I1
      have m2 := I2.1
      have sp2 : am_I h2' 20 20 = nI (i1 + 1) := by rw [← hh2, am_sI_I, am_ud_eq]
      have d2 : am_I h2' 32 = am_I h1' 32 := by rw [← hh2, am_sI_ne (by omega)]
      have q2 : am_I h2' 33 = am_I h 33 := by rw [← hh2, am_sI_ne (by omega), q1]
      rw [p_run_s h2.1, p_step2, if_pos h2.2] at r1
      rw [if_pos m2.k, x_c6, nI_add]
      rcases m_reads (to := 6 + (3 * r + k)) (r := r) (k := k) (p := 1) (c := c) (N := p_set N 0 r k v1) I2 (by omega) (show i1 + 1 ≤ A.2.2.2.1 by omega) sp2 with ⟨i3, v3, e3, hi3, r3⟩ | ⟨i3, s3, e3, hi3, r3⟩
      · right
        rw [if_neg (by decide), if_neg (by decide)] at r3
        rw [e3, x_bI, if_neg (by decide)]
        have T3 : mT h2' (am_sI (am_sI h2' 32 (6 + (3 * r + k)) v3) 20 20 (nI i3)) := mT.nu.tr mT.sp
        revert T3
        generalize hh3 : am_sI (am_sI h2' 32 (6 + (3 * r + k)) v3) 20 20 (nI i3) = h3'
        intro T3
        have I3 := T3.I I2
        have m3 := I3.1
        have sp3 : am_I h3' 20 20 = nI i3 := by rw [← hh3, am_sI_I, am_ud_eq]
        have d3 : ∀ x, am_I h3' 32 x = if x = 6 + (3 * r + k) then v3 else am_I h2' 32 x := fun x => by rw [← hh3, am_sI_ne (by omega), am_sI_I]; rfl
        have q3 : am_I h3' 33 = am_I h 33 := by rw [← hh3, am_sI_ne (by omega), am_sI_ne (by omega), q2]
        rw [if_pos m3.k, m3.r19, x_oe, if_pos (x_rdc m3.k19 m3.l19 (by omega) (by omega)), if_pos (x_wrc m3.k19 m3.l19 (by omega) (by omega)), q3, er, nI_1]
        try dsimp only
        have T4 : mT h3' (am_sI h3' 33 r (nI (k + 1))) := mT.ro
        revert T4
        generalize hh4 : am_sI h3' 33 r (nI (k + 1)) = h4'
        intro T4
        have I4 := T4.I I3
        have m4 := I4.1
        have sp4 : am_I h4' 20 20 = nI i3 := by rw [← hh4, am_sI_ne (by omega)]; exact sp3
        have q4 : am_I h4' 33 r = nI (k + 1) := by rw [← hh4, am_sI_I, am_ud_eq]
        have q40 : r = 1 → am_I h4' 33 0 = nI c := fun z => by rw [← hh4, am_sI_I, am_ud_ne (by omega), q3]; exact (h1 z).1
        have d4 : ∀ x, am_I h4' 32 x = if x = 6 + (3 * r + k) then v3 else if x = 3 * r + k then v1 else am_I h 32 x := fun x => by rw [← hh4, am_sI_ne (by omega), d3, d2, d1]
        have rr := r1.trans r3
        rw [if_pos m4.k, m4.r19, x_oe, if_pos (x_rdc m4.k19 m4.l19 (by omega) (by omega)), q4]
        refine ⟨i3, _, h4', ?_, ((T1.tr T2).tr T3).tr T4, hi3, sp4, q4, rr, ?_, ?_⟩
        · rcases hr with rfl | rfl
          · rw [if_pos (show nI 0 = 0 from rfl), if_pos rfl]
          · rw [if_neg (by decide), if_pos m4.k, x_oe, if_pos (x_rd0 m4.k19 m4.l19 (by omega)), x_cl0, q40 rfl, if_neg (by decide)]
        · intro p hp j hj
          rw [d4]
          by_cases ej : j = k
          · subst ej
            rcases (show p = 0 ∨ p = 1 by omega) with rfl | rfl
            · rw [if_neg (by omega), if_pos (by omega), p_set_ne (by omega), p_set_eq]
            · rw [if_pos (by omega), p_set_eq]
          · rw [if_neg (by omega), if_neg (by omega), p_set_ne (by omega), p_set_ne (by omega)]
            exact w p hp j (by omega)
        · intro z
          refine ⟨q40 z, fun p hp j hj => ?_⟩
          obtain ⟨f1, f2, f3, f4⟩ := h1 z
          rw [d4, if_neg (by omega), if_neg (by omega), p_set_ne (by omega), p_set_ne (by omega)]
          exact f4 p hp j hj
      · left
        rw [e3, x_bI, if_pos (by decide)]
        have rr := r1.trans r3
        exact p_res.no ((T1.tr T2).tr mT.sp) (by rw [am_sI_I, am_ud_eq]) hi3 (by rw [rr])
    · left
      rw [if_neg h2, x_bI, if_pos (by decide)]
      refine p_res.no T1 sp1 hi1 ?_
      rw [r1]
      refine p_run_no hi1 (fun hn => ?_) (fun _ => by simp)
      rw [p_step2, if_neg (fun z => h2 ⟨hn, z⟩)]
  · left
    rw [e1, x_bI, if_pos (by decide)]
    exact p_res.no mT.sp (by rw [am_sI_I, am_ud_eq]) hi1 (by rw [r1])
theorem m_row9 {r c : Nat} (hr : r = 0 ∨ r = 1) : ∀ (d k i : Nat) (N : Nat → Nat → Nat → Int32) (h : AH), k + d + 1 = 3 → mI h A → i ≤ A.2.2.2.1 → am_I h 20 20 = nI i → am_I h 33 r = nI k → (r = 1 → am_I h 33 0 = nI c ∧ k + 1 ≤ c ∧ c ≤ 3 ∧ p_w h N 0 c) → p_w h N r k → p_res A h r c i (0, r, k, 0, 0, c, N) (am_ev 141 9 [.ref 20, .int (nI r), .int 1, am_ph] [] h) := by
  intro d
  induction d with
  | zero =>
    intro k i N h hk I hi e er h1 w
    rcases m_rowCell I hr (by omega) hi e er h1 w with x | ⟨i', N', h', e1, T, hi', e2, e3, rr, w', f'⟩
    · exact x
    · have I' := T.I I
      rw [e1, am_b141_84]
      have hs : ¬ nI (k + 1) < (if r = 0 then nI 3 else nI c) := by
        rcases hr with rfl | rfl
        · rw [if_pos rfl, x_lt (by omega) (by omega)]; omega
        · obtain ⟨f1, f2, f3, f4⟩ := h1 rfl
          rw [if_neg (by decide), x_lt (by omega) (by omega)]; omega
      rw [if_neg hs]
      refine p_res.of (m_rowEnd I' hr hi' e2 e3 (by omega) (fun z => ⟨(f' z).1, (h1 z).2.1, (h1 z).2.2.1, (f' z).2⟩) w' (fun _ _ => ?_)) T rr
      rcases hr with rfl | rfl
      · rw [if_pos rfl]; omega
      · have := (h1 rfl).2.2.1
        rw [if_neg (by decide)]; omega
  | succ d ih =>
    intro k i N h hk I hi e er h1 w
    rcases m_rowCell I hr (by omega) hi e er h1 w with x | ⟨i', N', h', e1, T, hi', e2, e3, rr, w', f'⟩
    · exact x
    · have I' := T.I I
      have m' := I'.1
      have hs : nI (k + 1) < (if r = 0 then nI 3 else nI c) ↔ k + 1 < (if r = 0 then 3 else c) := by
        rcases hr with rfl | rfl
        · rw [if_pos rfl, if_pos rfl, x_lt (by omega) (by omega)]
        · obtain ⟨f1, f2, f3, f4⟩ := h1 rfl
          rw [if_neg (by decide), if_neg (by decide), x_lt (by omega) (by omega)]
      have hend : (i' < A.2.2.2.1 → A.2.2.2.2 i' = nI 59 → (if r = 0 then 3 else c) ≤ k + 1) → p_res A h r c i (0, r, k, 0, 0, c, N) (am_ev 141 9 [.ref 20, .int (nI r), .int 0, am_ph] [] h') := fun z => p_res.of (m_rowEnd I' hr hi' e2 e3 (by omega) (fun z => ⟨(f' z).1, (h1 z).2.1, (h1 z).2.2.1, (f' z).2⟩) w' z) T rr
      rw [e1, am_b141_84]
      by_cases h2 : k + 1 < (if r = 0 then 3 else c)
      · rw [if_pos (hs.2 h2), if_pos m'.k, x_c59, m_takes I' hi' e2]
        by_cases h3 : i' < A.2.2.2.1 ∧ A.2.2.2.2 i' = nI 59
        · rw [if_pos h3, x_bI, if_neg (by decide)]
          have rs : p_run A.2.2.2.2 (A.2.2.2.1 - i') i' (3, r, k + 1, 1, 0, c, N') = p_run A.2.2.2.2 (A.2.2.2.1 - (i' + 1)) (i' + 1) (0, r, k + 1, 0, 0, c, N') := by
            rw [p_run_s h3.1, p_step3, if_neg (by rw [h3.2]; decide), if_pos h3.2, if_neg (by omega)]
          refine p_res.of (ih (k + 1) (i' + 1) N' _ (by omega) ((mT.sp (h := h')).I I') (by omega) (by rw [am_sI_I, am_ud_eq]) (by rw [am_sI_ne (by omega)]; exact e3) (fun z => ?_) (w'.cp (fun p hp j hj => ⟨by rw [am_sI_ne (by omega)], rfl⟩))) (T.tr mT.sp) (rr.trans rs)
          rw [if_neg (by omega)] at h2
          exact ⟨by rw [am_sI_ne (by omega)]; exact (f' z).1, by omega, (h1 z).2.2.1, (f' z).2.cp (fun p hp j hj => ⟨by rw [am_sI_ne (by omega)], rfl⟩)⟩
        · rw [if_neg h3, x_bI, if_pos rfl]
          exact hend (fun a b => absurd ⟨a, b⟩ h3)
      · rw [if_neg (fun z => h2 (hs.1 z))]
        exact hend (fun _ _ => by omega)
end parse2
