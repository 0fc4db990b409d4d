/-! ===== the Model: what it holds, as a value; the calls that change the state ===== -/
/-- a state; how many changes, and the states before them; saved states; the pad -/
abbrev QA : Type := QS × (Nat × (Nat → QS)) × (Nat → Option QS) × (Nat × (Nat → Int32))
def q_g (s : QS) (p k : Nat) : Int32 := s.2.2.1 (6 * p + k)
/-- what a run leaves as it was of the extreme dice -/
def mxk (h h1 : AH) : Prop := am_I h1 20 10 = am_I h 20 10 ∧ am_I h1 20 11 = am_I h 20 11 ∧ am_J h1 25 = am_J h 25 ∧ am_J h1 26 = am_J h 26
theorem mxk.rf {h : AH} : mxk h h := ⟨rfl, rfl, rfl, rfl⟩
theorem mxk.tr {h h1 h2 : AH} (a : mxk h h1) (b : mxk h1 h2) : mxk h h2 := ⟨b.1.trans a.1, b.2.1.trans a.2.1, b.2.2.1.trans a.2.2.1, b.2.2.2.trans a.2.2.2⟩
def q_rec (A : QA) : Nat × (Nat → QS) := (q_recN A.2.1.1, q_recH A.2.1.1 A.2.1.2 A.1)
theorem q_recN_le {n : Nat} (h : n ≤ 6) : q_recN n ≤ 6 := by unfold q_recN; split <;> omega
theorem q_nI {x : Int32} (h : 0 ≤ x.toInt) : ∃ j : Nat, x = nI j ∧ (j : Int) = x.toInt ∧ j < 2147483648 := by
  have h1 : ¬ x < 0 := by
    rw [Int32.lt_iff_toInt_lt]
    exact fun z => absurd z (by show ¬ x.toInt < 0; omega)
  obtain ⟨j, hj, e⟩ := nI_of h1
  exact ⟨j, e, by rw [e, nI_toInt hj], hj⟩
abbrev q_cellok (c : Nat) (r q : Int32) : Prop := (0 ≤ r.toInt ∧ r.toInt ≤ 1) ∧ 0 ≤ q.toInt ∧ q.toInt ≤ (c : Int) - 1
