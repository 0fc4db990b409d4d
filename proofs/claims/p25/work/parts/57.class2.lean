/-! ===== the class: where it lies, what it holds ===== -/
/-- the ObedientDice lies at 1, its first State at 2, its pad at 15, the rows of States at 18 and 19 -/
def cL (h : AH) : Prop := (am_kd h 1 = 3) ∧ (am_R h 1 0 = some 2) ∧ (am_R h 1 1 = some 6) ∧ (am_R h 1 2 = some 15) ∧ (am_R h 1 3 = some 18) ∧ (am_R h 1 4 = some 19) ∧ (am_kd h 15 = 1) ∧ (am_R h 15 2 = some 16) ∧ (am_R h 15 3 = some 17) ∧ (am_kd h 16 = 7) ∧ (am_ln h 16 = 60) ∧ (am_kd h 17 = 5) ∧ (am_ln h 17 = 12) ∧ (am_kd h 18 = 8) ∧ (am_ln h 18 = 6) ∧ (am_kd h 19 = 8) ∧ (am_ln h 19 = 2) ∧ (am_kd h 6 = 0) ∧ (22 ≤ h.1.length)
theorem cL.k1 {h : AH} (m : cL h) : am_kd h 1 = 3 := m.1
theorem cL.n {h : AH} (m : cL h) : am_R h 1 0 = some 2 := m.2.1
theorem cL.e {h : AH} (m : cL h) : am_R h 1 1 = some 6 := m.2.2.1
theorem cL.p {h : AH} (m : cL h) : am_R h 1 2 = some 15 := m.2.2.2.1
theorem cL.hi {h : AH} (m : cL h) : am_R h 1 3 = some 18 := m.2.2.2.2.1
theorem cL.sl {h : AH} (m : cL h) : am_R h 1 4 = some 19 := m.2.2.2.2.2.1
theorem cL.k15 {h : AH} (m : cL h) : am_kd h 15 = 1 := m.2.2.2.2.2.2.1
theorem cL.k18 {h : AH} (m : cL h) : am_kd h 18 = 8 := m.2.2.2.2.2.2.2.2.2.2.2.2.2.1
theorem cL.l18 {h : AH} (m : cL h) : am_ln h 18 = 6 := m.2.2.2.2.2.2.2.2.2.2.2.2.2.2.1
theorem cL.k6 {h : AH} (m : cL h) : am_kd h 6 = 0 := m.2.2.2.2.2.2.2.2.2.2.2.2.2.2.2.2.2.1
theorem cL.g {h : AH} (m : cL h) : 22 ≤ h.1.length := m.2.2.2.2.2.2.2.2.2.2.2.2.2.2.2.2.2.2
/-- what a run of the class leaves: it may lay more, and changes rows of P alone -/
def cF (h h1 : AH) (P : Nat → Prop) : Prop := (∃ l, h1.1 = h.1 ++ l ∧ (l = [] ∨ l = [(2, 5), (5, 12), (5, 6), (5, 6)])) ∧ ∀ b, b < h.1.length → ¬ P b → am_I h1 b = am_I h b ∧ am_J h1 b = am_J h b ∧ am_R h1 b = am_R h b
theorem am_fr.c {h h1 : AH} {P Q : Nat → Prop} (f : am_fr h h1 P) (hp : ∀ b, P b → Q b) : cF h h1 Q := ⟨⟨[], by rw [f.1]; simp, Or.inl rfl⟩, fun b _ hb => ⟨f.2.2.1 b (fun z => hb (hp b z)), f.2.2.2 b (fun z => hb (hp b z)), by rw [f.2.1]⟩⟩
theorem cF.len {h h1 : AH} {P : Nat → Prop} (f : cF h h1 P) : h.1.length ≤ h1.1.length := by
  obtain ⟨⟨l, e, -⟩, -⟩ := f
  rw [e, List.length_append]
  omega
theorem cF.tr {h h1 h2 : AH} {P : Nat → Prop} (f : cF h h1 P) (g : am_fr h1 h2 P) : cF h h2 P := by
  have hl := f.len
  obtain ⟨⟨l, e, d⟩, f2⟩ := f
  refine ⟨⟨l, g.1.trans e, d⟩, fun b hb hp => ?_⟩
  have := f2 b hb hp
  exact ⟨(g.2.2.1 b hp).trans this.1, (g.2.2.2 b hp).trans this.2.1, by rw [g.2.1]; exact this.2.2⟩
theorem cF.kd {h h1 : AH} {P : Nat → Prop} (f : cF h h1 P) {b : Nat} (hb : b < h.1.length) : am_kd h1 b = am_kd h b ∧ am_ln h1 b = am_ln h b := by
  obtain ⟨⟨l, e, -⟩, -⟩ := f
  exact t_kd_lt e hb
/-- rows of the class itself, its Extremes apart -/
def cN (b : Nat) : Prop := (0 < b ∧ b < 6) ∨ (15 ≤ b ∧ b < 20) ∨ 22 ≤ b
/-- where the i-th of the kept States lies: six of the history, two slots -/
def cr (h : AH) (i : Nat) : Option Nat := if i < 6 then am_R h 18 i else am_R h 19 (i - 6)
def cP (h : AH) : Prop := (∃ m, h.1.length = 22 + 4 * m) ∧ (∀ i, i < 8 → ∀ a, cr h i = some a → 22 ≤ a ∧ a % 4 = 2 ∧ a + 4 ≤ h.1.length ∧ ∃ c, sS h a c) ∧ ∀ i j, i < j → j < 8 → ∀ a, cr h i = some a → ¬ cr h j = some a
def cS (h : AH) (i : Nat) : Option QS → Prop
  | none => am_R h 19 i = none
  | some s => ∃ a, am_R h 19 i = some a ∧ sV h a s
def cI (h : AH) (A : QA) : Prop := cL h ∧ cP h ∧ sV h 2 A.1 ∧ (am_I h 1 5 = nI A.2.1.1 ∧ A.2.1.1 ≤ 6 ∧ ∀ i, i < A.2.1.1 → ∃ a, am_R h 18 i = some a ∧ sV h a (A.2.1.2 i)) ∧ (∀ i, i < 2 → cS h i (A.2.2.1 i)) ∧ am_I h 15 0 = nI A.2.2.2.1 ∧ A.2.2.2.1 ≤ 60 ∧ ∀ k, k < A.2.2.2.1 → am_I h 16 k = A.2.2.2.2 k
theorem cL.fr {h h1 : AH} {P : Nat → Prop} (m : cL h) (f : am_fr h h1 P) : cL h1 := by
  unfold cL
  simp only [f.kd, f.ln, f.2.1, f.1]
  exact m
theorem cr_fr {h h1 : AH} {P : Nat → Prop} (f : am_fr h h1 P) (i : Nat) : cr h1 i = cr h i := by
  unfold cr
  rw [f.2.1]
/-- a State's rows are written, and those of no other kept one -/
theorem cP.fr {h h1 : AH} {a0 : Nat} (p : cP h) (f : am_fr h h1 (sP a0)) (h0 : a0 % 4 = 2) (hs : ∀ c, sS h a0 c → ∃ c', sS h1 a0 c') : cP h1 := by
  obtain ⟨p1, p2, p3⟩ := p
  refine ⟨by rw [f.1]; exact p1, fun i hi a e => ?_, fun i j hij hj a e => ?_⟩
  · rw [cr_fr f] at e
    obtain ⟨q1, q2, q3, c, q4⟩ := p2 i hi a e
    refine ⟨q1, q2, by rw [f.1]; exact q3, ?_⟩
    by_cases ea : a = a0
    · rw [ea]; rw [ea] at q4; exact hs c q4
    · refine ⟨c, q4.fr f ?_ q4.c3⟩
      rw [f.2.2.1 a (fun z => by obtain ⟨z1, z2⟩ := z; omega)]
      exact q4.2.2.2.2.2.2.2.1
  · rw [cr_fr f] at e ⊢
    exact p3 i j hij hj a e
theorem sV.fr4 {h h1 : AH} {a b : Nat} {s : QS} (S : sV h b s) (f : am_fr h h1 (sP a)) (ha : a % 4 = 2) (hb : b % 4 = 2) (ne : a ≠ b) : sV h1 b s := S.fr f (fun x z1 z2 => by obtain ⟨z1, z3⟩ := z1; obtain ⟨z2, z4⟩ := z2; omega)
theorem cI.h {h : AH} {A : QA} (I : cI h A) {i : Nat} (hi : i < A.2.1.1) : ∃ a, am_R h 18 i = some a ∧ sV h a (A.2.1.2 i) ∧ 22 ≤ a ∧ a % 4 = 2 := by
  obtain ⟨i1, i2, i3, i4, i5⟩ := I
  obtain ⟨a, e, v⟩ := i4.2.2 i hi
  have e2 : cr h i = some a := by unfold cr; rw [if_pos (by omega)]; exact e
  have := i2.2.1 i (by omega) a e2
  exact ⟨a, e, v, this.1, this.2.1⟩
theorem cS.fr {h h1 : AH} {i a0 : Nat} {o : Option QS} (x : cS h i o) (p : cP h) (hi : i < 2) (f : am_fr h h1 (sP a0)) (h0 : a0 % 4 = 2) (hn : am_R h 19 i ≠ some a0) : cS h1 i o := by
  cases o with
  | none => unfold cS at x ⊢; rw [f.2.1]; exact x
  | some s =>
    unfold cS at x ⊢
    obtain ⟨a, e, v⟩ := x
    rw [f.2.1]
    have e2 : cr h (6 + i) = some a := by unfold cr; rw [if_neg (by omega), show 6 + i - 6 = i by omega]; exact e
    have := p.2.1 (6 + i) (by omega) a e2
    exact ⟨a, e, v.fr4 f h0 this.2.1 (fun z => hn (by rw [e, z]))⟩
/-- the State that is on holds something else -/
theorem cI.now {h h1 : AH} {A : QA} {s : QS} (I : cI h A) (f : am_fr h h1 (sP 2)) (v : sV h1 2 s) : cI h1 (s, A.2) := by
  obtain ⟨i1, i2, i3, i4, i5, i6, i7, i8⟩ := id I
  refine ⟨i1.fr f, i2.fr f (by omega) (fun c _ => ⟨_, v.1⟩), v, ⟨?_, i4.2.1, fun i hi => ?_⟩, fun i hi => (i5 i hi).fr i2 hi f (by omega) (fun z => ?_), ?_, i7, ?_⟩
  · rw [f.2.2.1 1 (fun z => by obtain ⟨z1, z2⟩ := z; omega)]; exact i4.1
  · obtain ⟨a, e, v', ha1, ha2⟩ := I.h hi
    exact ⟨a, by rw [f.2.1]; exact e, v'.fr4 f (by omega) ha2 (by omega)⟩
  · have e2 : cr h (6 + i) = some 2 := by unfold cr; rw [if_neg (by omega), show 6 + i - 6 = i by omega]; exact z
    have := i2.2.1 (6 + i) (by omega) 2 e2
    omega
  · rw [f.2.2.1 15 (fun z => by obtain ⟨z1, z2⟩ := z; omega)]; exact i6
  · rw [f.2.2.1 16 (fun z => by obtain ⟨z1, z2⟩ := z; omega)]; exact i8
theorem am_fr.now {h h1 : AH} (f : am_fr h h1 (sP 2)) : am_fr h h1 cN := f.wk (fun b z => by obtain ⟨z1, z2⟩ := z; exact Or.inl (by omega))

