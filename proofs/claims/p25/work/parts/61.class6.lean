/-! ===== the class: forgetting, throwing, wiping, going back ===== -/
section class6
variable {h : AH} {A : QA}
theorem c_forget (I : cI h A) (w : q_wf A.1) (x : Int32) : ∃ h1, am_ev 67 0 [.ref 1, .int x, am_ph] [] h = some (some (.int (f_forget A x)), h1) ∧ cI h1 (g_forget A x) ∧ cF h h1 cN := by
  have L := I.1
  have S := I.S
  rw [am_b67_0]
  simp only [x_lt0I]
  unfold f_forget g_forget
  by_cases h1 : 0 ≤ x.toInt
  · obtain ⟨h2, e, I2, fr⟩ := I.rec
    have S2 := I2.S
    have V2 := I2.2.2.1
    rw [if_neg (fun z => z h1), if_pos h1, if_pos h1, if_pos L.k1, L.n, x_oe, if_pos S.1, S.2.2.2.1, x_oe, I.sF, x_bI, if_pos L.k1, e, x_bV, if_pos I2.1.k1, I2.1.n, x_oe, if_pos S2.1, S2.2.2.2.1, x_oe]
    have e4 := s_fill (m := 0) (v := 0) S2.2.2.2.2.2.2.1.1 S2.2.2.2.2.2.2.1.2 (by omega) (by omega)
    rw [nI_0] at e4
    rw [e4, x_bV, w.sF6]
    generalize hM : am_fl h2 (2 + 3) 6 (fun k => if k < 0 then 0 else 0) = M
    have f3 : am_fr h2 M (sP 2) := by rw [← hM]; exact am_fr_rI ⟨by omega, by omega⟩
    have k1 : am_kd M 1 = 3 := (f3.kd 1).trans I2.1.k1
    have r1 : am_R M 1 0 = some 2 := by rw [f3.2.1]; exact I2.1.n
    have k2 : am_kd M 2 = 2 := (f3.kd 2).trans S2.1
    rw [if_pos k1, r1, x_oe, if_pos k2]
    have f4 : am_fr h2 (am_sI M 2 1 x) (sP 2) := f3.tr (am_sI_fr ⟨by omega, by omega⟩)
    have i0 : am_I (am_sI M 2 1 x) 2 0 = nI A.1.1 := by rw [am_sI_I, am_ud_ne (by omega), ← hM, am_fl_ne (by omega)]; exact S2.2.2.2.2.2.2.2.1
    refine ⟨_, rfl, I2.now f4 ⟨S2.fr f4 i0 S2.c3, by rw [am_sI_I, am_ud_eq], fun k hk => ?_, fun k hk => ?_, fun k hk => ?_⟩, fr.tr f4.now⟩
    · rw [am_sI_ne (by omega), ← hM, am_fl_ne (by omega)]; exact V2.2.2.1 k hk
    · rw [am_sI_ne (by omega), ← hM, am_fl_ne (by omega)]; exact V2.2.2.2.1 k hk
    · rw [am_sI_ne (by omega), ← hM, am_fl_I hk, if_neg (by omega)]
  · rw [if_pos h1, if_neg h1, if_neg h1]
    exact ⟨h, rfl, I, am_fr.rf.c (fun _ z => z)⟩
theorem c_roll43 {B : (Nat × (Nat → QS)) × (Nat → Option QS) × (Nat × (Nat → Int32))} {m : Nat} (hm : m ≤ 100) : ∀ (d j : Nat) (h : AH) (x : QS × Nat), j + d = m → cI h (x.1, B) → q_wf x.1 → q_room x.1 d → ∃ h1, am_ev 66 43 [.ref 1, .int (nI m), .int (nI x.2), .int (nI j)] [] h = some (some (.int (nI (q_thrs d x).2)), h1) ∧ cI h1 ((q_thrs d x).1, B) ∧ am_fr h h1 cN := by
  intro d
  induction d with
  | zero =>
    intro j h x hj I w r
    rw [am_b66_43, if_neg (by rw [x_lt (by omega) (by omega)]; omega)]
    exact ⟨h, rfl, I, am_fr.rf⟩
  | succ d ih =>
    intro j h x hj I w r
    obtain ⟨n, n1, n2, n3, n4⟩ := w.sumW
    obtain ⟨h1, e1, f1, v1⟩ := s_throw I.2.2.1 (by dsimp only; rw [n1, ← nI_0, x_lt (by omega) (by omega)]; exact n3)
    have z := q_thS_room w r
    have I1 := I.now f1 v1
    obtain ⟨h2, e2, I2, f2⟩ := ih (j + 1) h1 (q_thr x.1) (by omega) I1 z.1 z.2
    refine ⟨h2, ?_, I2, f1.now.tr f2⟩
    rw [am_b66_43, if_pos (by rw [x_lt (by omega) (by omega)]; omega), if_pos I.1.k1, I.1.n, x_oe, if_pos I.S.1, e1, x_bI, nI_S]
    exact e2
theorem c_roll (I : cI h A) (w : q_wf A.1) (x : Int32) : ∃ h1, am_ev 66 0 [.ref 1, .int x, am_ph, am_ph] [] h = some (some (.int (f_roll A x)), h1) ∧ cI h1 (g_roll A x) ∧ cF h h1 cN := by
  have L := I.1
  have S := I.S
  rw [am_b66_0, c_rng (p := 1) (q := 100) rfl rfl]
  unfold f_roll g_roll
  by_cases h1 : 1 ≤ x.toInt ∧ x.toInt ≤ 100
  · rw [if_pos h1, if_pos L.k1, L.n, x_oe, if_pos S.1, S.2.2.2.1, x_oe, I.sF, x_bI, if_pos h1, w.sF6]
    by_cases h2 : 1000 < q_sum (2 * A.1.1) A.1.2.2.2.2 + x
    · rw [if_pos h2, if_pos h2, if_neg (fun z => z.2 h2)]
      exact ⟨h, rfl, I, am_fr.rf.c (fun _ z => z)⟩
    · rw [if_neg h2, if_neg h2, if_pos L.k1, if_pos (And.intro h1 h2)]
      obtain ⟨j, rfl, ej, -⟩ := q_nI (show 0 ≤ x.toInt by omega)
      have ev : q_vI (nI j) = j := by unfold q_vI; omega
      rw [ev]
      obtain ⟨n, n1, n2, n3⟩ := w.sumF
      rw [n2, nI_add, show (1000 : Int32) = nI 1000 from rfl, x_lt (by omega) (by omega)] at h2
      obtain ⟨h3, e3, I3, f3⟩ := I.rec
      obtain ⟨h4, e4, I4, f4⟩ := c_roll43 (m := j) (by omega) j 0 h3 (A.1, 0) (by omega) I3 w (q_room_of w n1 (by omega) (by omega))
      rw [nI_0] at e4
      rw [e3, x_bV]
      exact ⟨h4, e4, I4, f3.tr f4⟩
  · rw [if_neg h1, if_neg h1, if_neg (fun z => h1 z.1)]
    exact ⟨h, rfl, I, am_fr.rf.c (fun _ z => z)⟩
/-- the pad alone is another -/
theorem cI.pd {h1 : AH} (I : cI h A) (f : am_fr h h1 (fun b => b = 15 ∨ b = 16 ∨ b = 17)) {n : Nat} {P : Nat → Int32} (e : am_I h1 15 0 = nI n) (hn : n ≤ 60) (hp : ∀ k, k < n → am_I h1 16 k = P k) : cI h1 (A.1, A.2.1, A.2.2.1, n, P) := by
  obtain ⟨i1, i2, i3, i4, i5, i6, i7, i8⟩ := id I
  have hv : ∀ a s, a = 2 ∨ 22 ≤ a → sV h a s → sV h1 a s := fun a s ha v => v.fr f (fun x z1 z2 => by obtain ⟨z2, z3⟩ := z2; omega)
  refine ⟨i1.fr f, ⟨by rw [f.1]; exact i2.1, fun i hi a ea => ?_, fun i j hij hj a ea => ?_⟩, hv 2 _ (Or.inl rfl) i3, ⟨by rw [f.2.2.1 1 (by omega)]; exact i4.1, i4.2.1, fun i hi => ?_⟩, fun i hi => ?_, e, hn, hp⟩
  · rw [cr_fr f] at ea
    obtain ⟨q1, q2, q3, c, q4⟩ := i2.2.1 i hi a ea
    exact ⟨q1, q2, by rw [f.1]; exact q3, c, q4.fr f (by rw [f.2.2.1 a (by omega)]; exact q4.2.2.2.2.2.2.2.1) q4.c3⟩
  · rw [cr_fr f] at ea ⊢
    exact i2.2.2 i j hij hj a ea
  · obtain ⟨a, ea, va, ha, -⟩ := I.h hi
    exact ⟨a, by rw [f.2.1]; exact ea, hv a _ (Or.inr ha) va⟩
  · exact (i5 i hi).mv i2 hi (cr_fr f _) (fun a s ha _ v => hv a s ha v)
theorem am_fr.pd {h1 : AH} (f : am_fr h h1 (fun b => b = 15 ∨ b = 16 ∨ b = 17)) : am_fr h h1 cN := f.wk (fun b z => Or.inr (Or.inl (by omega)))
theorem c_undo (I : cI h A) : ∃ h1, am_ev 80 0 [.ref 1, am_ph] [] h = some (some (.int (f_undo A)), h1) ∧ cI h1 (g_undo A) ∧ cF h h1 cN := by
  have L := I.1
  obtain ⟨i1, i2, i3, i4, i5, i6, i7, i8⟩ := id I
  have h1l : (am_I h 1 5 < (1 : Int32)) = (A.2.1.1 = 0) := by
    rw [i4.1, x_c1, x_lt (by omega) (by omega)]
    exact propext (by omega)
  rw [am_b80_0, if_pos L.k1]
  simp only [h1l]
  unfold f_undo g_undo
  by_cases h1 : A.2.1.1 = 0
  · rw [if_pos h1, if_pos h1, if_pos h1]
    exact ⟨h, rfl, I, am_fr.rf.c (fun _ z => z)⟩
  · rw [if_neg h1, if_neg h1, if_neg h1]
    have hn : A.2.1.1 - 1 < A.2.1.1 := by omega
    have h6 := i4.2.1
    obtain ⟨a, ea, va, ha, ha2⟩ := I.h hn
    obtain ⟨h2, e2, f2, v2⟩ := s_copyFrom I.S va (Or.inl (by omega))
    have I2 := I.now f2 v2
    have e5 : am_I h2 1 5 = nI A.2.1.1 := I2.2.2.2.1.1
    rw [if_pos L.k1, if_pos L.k1, L.hi, x_oe, if_pos (by rw [L.k18]; omega), x_ofNat, L.l18, i4.1, if_neg (by rw [x_lt (by omega) (by omega)]; omega), if_pos L.k1, x_oe, if_pos L.k1, x_c1, x_sub (by omega), x_cl (by omega), if_pos ⟨L.k18, fun z => z.elim (nI_pos (by omega)) (by rw [L.l18]; omega)⟩, ea, x_oe, if_pos L.k1, L.n, x_oe, if_pos I.S.1, e2, x_bV, if_pos I2.1.k1, if_pos I2.1.k1, e5, x_sub (by omega)]
    try dsimp only
    have f3 : am_fr h2 (am_sI h2 1 5 (nI (A.2.1.1 - 1))) (fun x => x = 1) := am_sI_fr rfl
    have k3 : am_kd (am_sI h2 1 5 (nI (A.2.1.1 - 1))) 1 = 3 := I2.1.k1
    rw [if_pos k3, am_sI_I, am_ud_eq]
    have hc : ∀ a s, 2 ≤ a → sV h2 a s → sV (am_sI h2 1 5 (nI (A.2.1.1 - 1))) a s := fun a s ha v => v.fr f3 (fun x z1 z2 => by obtain ⟨z2, z3⟩ := z2; omega)
    have P3 : cP (am_sI h2 1 5 (nI (A.2.1.1 - 1))) := by
      refine ⟨I2.2.1.1, fun i hi a e => ?_, I2.2.1.2.2⟩
      obtain ⟨r1, r2, r3, c', r4⟩ := I2.2.1.2.1 i hi a e
      exact ⟨r1, r2, r3, c', r4.fr f3 (by rw [am_sI_ne (by omega)]; exact r4.2.2.2.2.2.2.2.1) r4.c3⟩
    refine ⟨_, rfl, I2.of (n := A.2.1.1 - 1) (H := A.2.1.2) (sl := A.2.2.1) (I2.1.fr f3) P3 (hc 2 _ (by omega) I2.2.2.1) (by rw [am_sI_I, am_ud_eq]) (by omega) (fun i hi => ?_) (fun i hi => ?_) (by rw [am_sI_ne (by omega)]) (by rw [am_sI_ne (by omega)]), (f2.now.tr (f3.wk (fun x z => Or.inl (by omega)))).c (fun _ z => z)⟩
    · obtain ⟨a', ea', va', ha', -⟩ := I2.h (show i < A.2.1.1 by omega)
      exact ⟨a', ea', hc a' _ (by omega) va'⟩
    · exact (I2.2.2.2.2.1 i hi).mv I2.2.1 hi rfl (fun a s ha _ v => hc a s (by omega) v)
end class6
