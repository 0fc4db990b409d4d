/-! ===== the Model: calls that change the state ===== -/
theorem x_bI {x : Int32} {h : AH} {f : Int32 → AH → AR} : am_bI (some (some (.int x), h)) f = f x h := rfl
theorem x_bJ {x : Int64} {h : AH} {f : Int64 → AH → AR} : am_bJ (some (some (.long x), h)) f = f x h := rfl
theorem x_bV {h : AH} {f : AH → AR} : am_bV (some (none, h)) f = f h := rfl
theorem x_bA {x : Nat} {h : AH} {f : Nat → AH → AR} : am_bA (some (some (.ref x), h)) f = f x h := rfl
theorem x_oe {α : Sort _} {a : Nat} {n : α} {f : Nat → α} : am_oe (some a) n f = f a := rfl
theorem x_ite {α : Sort _} {P : Prop} [Decidable P] {a b : α} : (if (if P then (1 : Int32) else 0) = 0 then a else b) = if P then b else a := by
  by_cases h : P
  · simp only [if_pos h, show ((1 : Int32) = 0) = False by decide, if_false]
  · simp only [if_neg h, if_true]
section model6
variable {h : AH} {A : QA}
def f_begin (A : QA) (x : Int32) : Int32 := if 2 ≤ x.toInt ∧ x.toInt ≤ 3 then nI A.1.1 else -2
def g_begin (A : QA) (x : Int32) : QA := if 2 ≤ x.toInt ∧ x.toInt ≤ 3 then (q_new x.toInt.toNat A.1.2.1, q_rec A, A.2.2) else A
abbrev q_vI (x : Int32) : Nat := x.toInt.toNat
def f_points (A : QA) (p r q v : Int32) : Int32 := if 0 ≤ p.toInt ∧ p.toInt ≤ 1 then (if q_cellok A.1.1 r q then (if -9 ≤ v.toInt ∧ v.toInt ≤ 9 then q_g A.1 (q_vI p) (A.1.1 * q_vI r + q_vI q) + nI 100 else -2) else -1) else -1
def g_points (A : QA) (p r q v : Int32) : QA := if (0 ≤ p.toInt ∧ p.toInt ≤ 1) ∧ q_cellok A.1.1 r q ∧ (-9 ≤ v.toInt ∧ v.toInt ≤ 9) then ((A.1.1, A.1.2.1, am_ud A.1.2.2.1 (6 * q_vI p + (A.1.1 * q_vI r + q_vI q)) v, A.1.2.2.2.1, A.1.2.2.2.2), q_rec A, A.2.2) else A
theorem q_cell_lt {c r q : Nat} (h3 : c = 2 ∨ c = 3) (hr : r ≤ 1) (hq : q < c) : c * r + q < 2 * c ∧ c * r + q < 6 := by
  rcases h3 with rfl | rfl <;> omega
theorem q_cell {c : Nat} {r q : Int32} (h3 : c = 2 ∨ c = 3) (h : q_cellok c r q) : ∃ r' q' : Nat, r = nI r' ∧ q = nI q' ∧ q_vI r = r' ∧ q_vI q = q' ∧ r' ≤ 1 ∧ q' < c ∧ c * r' + q' < 2 * c ∧ c * r' + q' < 6 := by
  obtain ⟨⟨a1, a2⟩, a3, a4⟩ := h
  obtain ⟨r', e1, f1, -⟩ := q_nI a1
  obtain ⟨q', e2, f2, -⟩ := q_nI a3
  have := q_cell_lt h3 (show r' ≤ 1 by omega) (show q' < c by omega)
  exact ⟨r', q', e1, e2, by unfold q_vI; omega, by unfold q_vI; omega, by omega, by omega, this⟩
theorem q_pl2 {p : Int32} (h : 0 ≤ p.toInt ∧ p.toInt ≤ 1) : ∃ p' : Nat, p = nI p' ∧ q_vI p = p' ∧ p' < 2 := by
  obtain ⟨p', e1, f1, -⟩ := q_nI h.1
  exact ⟨p', e1, by unfold q_vI; omega, by omega⟩
end model6
