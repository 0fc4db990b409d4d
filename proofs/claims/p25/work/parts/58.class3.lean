theorem am_sR_R {h : AH} {b k : Nat} {v : Option Nat} : am_R (am_sR h b k v) b = am_ud (am_R h b) k v := am_ud_eq
theorem am_sR_ne {h : AH} {b k d : Nat} {v : Option Nat} (hd : d ≠ b) : am_R (am_sR h b k v) d = am_R h d := am_ud_ne hd
/-- a State stays when its rows do -/
theorem sV.cp {h h1 : AH} {a : Nat} {s : QS} (S : sV h a s) (ek : ∀ j, j < 4 → am_kd h1 (a + j) = am_kd h (a + j) ∧ am_ln h1 (a + j) = am_ln h (a + j) ∧ am_I h1 (a + j) = am_I h (a + j)) (er : am_R h1 a = am_R h a) : sV h1 a s := by
  have e0 := ek 0 (by omega)
  have e1 := ek 1 (by omega)
  have e2 := ek 2 (by omega)
  have e3 := ek 3 (by omega)
  rw [Nat.add_zero] at e0
  unfold sV sS at S ⊢
  rw [e0.1, e0.2.2, e1.1, e1.2.1, e1.2.2, e2.1, e2.2.1, e2.2.2, e3.1, e3.2.1, e3.2.2, er]
  exact S
theorem sS.cp {h h1 : AH} {a c : Nat} (S : sS h a c) (ek : ∀ j, j < 4 → am_kd h1 (a + j) = am_kd h (a + j) ∧ am_ln h1 (a + j) = am_ln h (a + j) ∧ am_I h1 (a + j) = am_I h (a + j)) (er : am_R h1 a = am_R h a) : sS h1 a c := by
  have e0 := ek 0 (by omega)
  have e1 := ek 1 (by omega)
  have e2 := ek 2 (by omega)
  have e3 := ek 3 (by omega)
  rw [Nat.add_zero] at e0
  unfold sS at S ⊢
  rw [e0.1, e0.2.2, e1.1, e1.2.1, e2.1, e2.2.1, e3.1, e3.2.1, er]
  exact S
def c_row (i : Nat) : Nat := if i < 6 then 18 else 19
def c_pos (i : Nat) : Nat := if i < 6 then i else i - 6
theorem cr_eq (h : AH) (i : Nat) : cr h i = am_R h (c_row i) (c_pos i) := by
  unfold cr c_row c_pos
  split <;> rfl
theorem c_rp {i j : Nat} (hi : i < 8) (hj : j < 8) (e1 : c_row i = c_row j) (e2 : c_pos i = c_pos j) : i = j := by
  have : ∀ i, i < 8 → ∀ j, j < 8 → c_row i = c_row j → c_pos i = c_pos j → i = j := by decide
  exact this i hi j hj e1 e2
/-- a new State at the end, kept at i0 -/
theorem c_alloc {h h4 : AH} {i0 : Nat} (L : cL h) (p : cP h) (hi0 : i0 < 8) (hn : cr h i0 = none) (t4 : h4.1 = h.1 ++ [(2, 5), (5, 12), (5, 6), (5, 6)]) (o4 : ∀ b, b < h.1.length → am_I h4 b = am_I h b ∧ am_J h4 b = am_J h b ∧ am_R h4 b = am_R h b) (v4 : sV h4 h.1.length (q_new 2 1)) : cL (am_sR h4 (c_row i0) (c_pos i0) (some h.1.length)) ∧ cP (am_sR h4 (c_row i0) (c_pos i0) (some h.1.length)) ∧ cr (am_sR h4 (c_row i0) (c_pos i0) (some h.1.length)) i0 = some h.1.length ∧ (∀ i, i < 8 → i ≠ i0 → cr (am_sR h4 (c_row i0) (c_pos i0) (some h.1.length)) i = cr h i) ∧ (∀ a s, (a = 2 ∨ 22 ≤ a) → a + 4 ≤ h.1.length → sV h a s → sV (am_sR h4 (c_row i0) (c_pos i0) (some h.1.length)) a s) ∧ cF h (am_sR h4 (c_row i0) (c_pos i0) (some h.1.length)) cN := by
  have hg := L.g
  have hrow : c_row i0 = 18 ∨ c_row i0 = 19 := by unfold c_row; split <;> omega
  generalize hh6 : am_sR h4 (c_row i0) (c_pos i0) (some h.1.length) = h6
  have t6 : h6.1 = h.1 ++ [(2, 5), (5, 12), (5, 6), (5, 6)] := by rw [← hh6]; exact t4
  have kd : ∀ b, b < h.1.length → am_kd h6 b = am_kd h b ∧ am_ln h6 b = am_ln h b := fun b hb => t_kd_lt t6 hb
  have I6 : ∀ b, b < h.1.length → am_I h6 b = am_I h b ∧ am_J h6 b = am_J h b := fun b hb => by rw [← hh6]; exact ⟨(o4 b hb).1, (o4 b hb).2.1⟩
  have R6 : ∀ b, b < h.1.length → b ≠ c_row i0 → am_R h6 b = am_R h b := fun b hb hr => by rw [← hh6, am_sR_ne hr]; exact (o4 b hb).2.2
  have Rr : am_R h6 (c_row i0) = am_ud (am_R h (c_row i0)) (c_pos i0) (some h.1.length) := by rw [← hh6, am_sR_R, (o4 _ (by omega)).2.2]
  have l6 : h6.1.length = h.1.length + 4 := by rw [t6, List.length_append]; rfl
  have cr0 : cr h6 i0 = some h.1.length := by rw [cr_eq, Rr, am_ud_eq]
  have cri : ∀ i, i < 8 → i ≠ i0 → cr h6 i = cr h i := by
    intro i hi hne
    rw [cr_eq, cr_eq]
    by_cases er : c_row i = c_row i0
    · rw [er, Rr, am_ud_ne (fun z => hne (c_rp hi hi0 er z))]
    · have : c_row i = 18 ∨ c_row i = 19 := by unfold c_row; split <;> omega
      rw [R6 _ (by omega) er]
  have v6 : sV h6 h.1.length (q_new 2 1) := v4.cp (fun j hj => by rw [← hh6]; exact ⟨rfl, rfl, rfl⟩) (by rw [← hh6, am_sR_ne (by omega)])
  refine ⟨?_, ⟨?_, fun i hi a e => ?_, fun i j hij hj a e => ?_⟩, cr0, cri, fun a s ha hl v => ?_, ⟨⟨_, t6, Or.inr rfl⟩, fun b hb hp => ?_⟩⟩
  · obtain ⟨m1, m2, m3, m4, m5, m6, m7, m8, m9, m10, m11, m12, m13, m14, m15, m16, m17, m18, m19⟩ := L
    unfold cL
    rw [(kd 1 (by omega)).1, R6 1 (by omega) (by omega), (kd 15 (by omega)).1, R6 15 (by omega) (by omega), (kd 16 (by omega)).1, (kd 16 (by omega)).2, (kd 17 (by omega)).1, (kd 17 (by omega)).2, (kd 18 (by omega)).1, (kd 18 (by omega)).2, (kd 19 (by omega)).1, (kd 19 (by omega)).2, (kd 6 (by omega)).1]
    exact ⟨m1, m2, m3, m4, m5, m6, m7, m8, m9, m10, m11, m12, m13, m14, m15, m16, m17, m18, by omega⟩
  · obtain ⟨m, em⟩ := p.1
    exact ⟨m + 1, by omega⟩
  · by_cases ei : i = i0
    · subst ei
      rw [cr0] at e
      injection e with e
      subst e
      obtain ⟨m, em⟩ := p.1
      exact ⟨by omega, by omega, by omega, _, v6.1⟩
    · rw [cri i hi ei] at e
      obtain ⟨q1, q2, q3, c, q4⟩ := p.2.1 i hi a e
      exact ⟨q1, q2, by omega, c, q4.cp (fun j hj => ⟨(kd _ (by omega)).1, (kd _ (by omega)).2, (I6 _ (by omega)).1⟩) (R6 a (by omega) (by omega))⟩
  · by_cases ei : i = i0
    · subst ei
      rw [cr0] at e
      injection e with e
      subst e
      rw [cri j hj (by omega)]
      intro z
      have := p.2.1 j hj _ z
      omega
    · rw [cri i (by omega) ei] at e
      by_cases ej : j = i0
      · subst ej
        rw [cr0]
        intro z
        injection z with z
        have := p.2.1 i (by omega) a e
        omega
      · rw [cri j hj ej]
        exact p.2.2 i j hij hj a e
  · exact v.cp (fun j hj => ⟨(kd _ (by omega)).1, (kd _ (by omega)).2, (I6 _ (by omega)).1⟩) (R6 a (by omega) (by omega))
  · have : b ≠ c_row i0 := fun z => hp (by rw [z]; unfold cN; omega)
    exact ⟨(I6 b hb).1, (I6 b hb).2, R6 b hb this⟩
/-- a kept State takes another value -/
theorem cI.put {h h1 : AH} {A : QA} {i0 b : Nat} (I : cI h A) (hi0 : i0 < 8) (e : cr h i0 = some b) (f : am_fr h h1 (sP b)) (v : ∃ s, sV h1 b s) : cL h1 ∧ cP h1 ∧ sV h1 2 A.1 ∧ (∀ i, i < A.2.1.1 → i ≠ i0 → ∃ a, am_R h1 18 i = some a ∧ sV h1 a (A.2.1.2 i)) ∧ (∀ i, i < 2 → 6 + i ≠ i0 → cS h1 i (A.2.2.1 i)) ∧ (∀ b, b = 1 ∨ b = 15 ∨ b = 16 → am_I h1 b = am_I h b) ∧ 22 ≤ b := by
  obtain ⟨i1, i2, i3, i4, i5, i6, i7, i8⟩ := id I
  have q := i2.2.1 i0 hi0 b e
  have hne : ∀ i, i < 8 → i ≠ i0 → ¬ cr h i = some b := by
    intro i hi hne z
    rcases (show i < i0 ∨ i0 < i by omega) with g | g
    · exact i2.2.2 i i0 g hi0 b z e
    · exact i2.2.2 i0 i g hi b e z
  obtain ⟨s, hs⟩ := v
  refine ⟨i1.fr f, i2.fr f q.2.1 (fun c _ => ⟨_, hs.1⟩), i3.fr4 f q.2.1 (by omega) (by omega), fun i hi hn => ?_, fun i hi hn => (i5 i hi).fr i2 hi f q.2.1 (fun z => ?_), fun b' hb' => f.2.2.1 b' (fun z => by obtain ⟨z1, z2⟩ := z; omega), q.1⟩
  · obtain ⟨a, ea, va, ha1, ha2⟩ := I.h hi
    have ea2 : cr h i = some a := by unfold cr; rw [if_pos (by omega)]; exact ea
    exact ⟨a, by rw [f.2.1]; exact ea, va.fr4 f q.2.1 ha2 (fun z => hne i (by omega) hn (by rw [ea2, z]))⟩
  · exact hne (6 + i) (by omega) hn (by unfold cr; rw [if_neg (by omega), show 6 + i - 6 = i by omega]; exact z)
theorem cI.of {h h1 : AH} {A : QA} {n : Nat} {H : Nat → QS} {sl : Nat → Option QS} (I : cI h A) (L : cL h1) (P : cP h1) (v : sV h1 2 A.1) (e5 : am_I h1 1 5 = nI n) (hn : n ≤ 6) (hh : ∀ i, i < n → ∃ a, am_R h1 18 i = some a ∧ sV h1 a (H i)) (hs : ∀ i, i < 2 → cS h1 i (sl i)) (e15 : am_I h1 15 = am_I h 15) (e16 : am_I h1 16 = am_I h 16) : cI h1 (A.1, (n, H), sl, A.2.2.2) := by
  obtain ⟨i1, i2, i3, i4, i5, i6, i7, i8⟩ := id I
  exact ⟨L, P, v, ⟨e5, hn, hh⟩, hs, by rw [e15]; exact i6, i7, by rw [e16]; exact i8⟩
/-- the last part of recording: the State that is on, copied -/
theorem c_rec68 {h : AH} {A : QA} {b : Nat} (I : cI h A) (hn : A.2.1.1 < 6) (e : am_R h 18 A.2.1.1 = some b) : ∃ h1, am_ev 89 68 [.ref 1, .ref b] [] h = some (none, h1) ∧ cI h1 (A.1, (A.2.1.1 + 1, fun i => if i = A.2.1.1 then A.1 else A.2.1.2 i), A.2.2) ∧ am_fr h h1 (fun b => b = 1 ∨ 22 ≤ b) := by
  obtain ⟨i1, i2, i3, i4, i5, i6, i7, i8⟩ := id I
  have ec : cr h A.2.1.1 = some b := by unfold cr; rw [if_pos hn]; exact e
  obtain ⟨q1, q2, q3, c, q4⟩ := i2.2.1 _ (by omega) b ec
  obtain ⟨h1, e1, f1, v1⟩ := s_copyFrom q4 i3 (by omega)
  obtain ⟨p1, p2, p3, p4, p5, p6, p7⟩ := I.put (by omega) ec f1 ⟨_, v1⟩
  have k1 : am_kd h1 1 = 3 := p1.k1
  rw [am_b89_68, if_pos i1.k1, i1.n, x_oe, if_pos q4.1, e1, x_bV, if_pos k1, if_pos k1]
  have e5 : am_I h1 1 5 = nI A.2.1.1 := by rw [p6 1 (by omega)]; exact i4.1
  rw [e5, nI_1]
  try dsimp only
  have f2 : am_fr h1 (am_sI h1 1 5 (nI (A.2.1.1 + 1))) (fun x => x = 1) := am_sI_fr rfl
  refine ⟨_, rfl, ?_, (f1.wk (fun x z => by obtain ⟨z1, z2⟩ := z; exact Or.inr (by omega))).tr (f2.wk (fun x z => Or.inl z))⟩
  have hc : ∀ a s, 2 ≤ a → sV h1 a s → sV (am_sI h1 1 5 (nI (A.2.1.1 + 1))) a s := fun a s ha v => v.fr f2 (fun x z1 z2 => by obtain ⟨z2, z3⟩ := z2; omega)
  have := I.of (h1 := am_sI h1 1 5 (nI (A.2.1.1 + 1))) (n := A.2.1.1 + 1) (H := fun i => if i = A.2.1.1 then A.1 else A.2.1.2 i) (sl := A.2.2.1) (p1.fr f2) ?_ (hc 2 _ (by omega) p3) (by rw [am_sI_I, am_ud_eq]) (by omega) ?_ ?_ (by rw [am_sI_ne (by omega)]; exact p6 15 (by omega)) (by rw [am_sI_ne (by omega)]; exact p6 16 (by omega))
  · exact this
  · refine ⟨p2.1, fun i hi a e => ?_, p2.2.2⟩
    obtain ⟨r1, r2, r3, c', r4⟩ := p2.2.1 i hi a e
    exact ⟨r1, r2, r3, c', r4.fr f2 (by rw [am_sI_ne (by omega)]; exact r4.2.2.2.2.2.2.2.1) r4.c3⟩
  · intro i hi
    try dsimp only
    by_cases ei : i = A.2.1.1
    · rw [if_pos ei, ei]
      exact ⟨b, by show am_R h1 18 A.2.1.1 = _; rw [f1.2.1]; exact e, hc b _ (by omega) v1⟩
    · rw [if_neg ei]
      obtain ⟨a, ea, va⟩ := p4 i (by omega) ei
      have ha : 22 ≤ a := (p2.2.1 i (by omega) a (by unfold cr; rw [if_pos (by omega)]; exact ea)).1
      exact ⟨a, ea, hc a _ (by omega) va⟩
  · intro i hi
    have := p5 i hi (by omega)
    revert this
    cases A.2.2.1 i with
    | none => exact id
    | some s =>
      unfold cS
      rintro ⟨a, ea, va⟩
      have ha : 22 ≤ a := (p2.2.1 (6 + i) (by omega) a (by unfold cr; rw [if_neg (by omega), show 6 + i - 6 = i by omega]; exact ea)).1
      exact ⟨a, ea, hc a _ (by omega) va⟩

