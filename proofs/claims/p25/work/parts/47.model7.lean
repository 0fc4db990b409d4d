/-! ===== the Model: weights, throws, undo, saving ===== -/
def f_weigh (A : QA) (r q v : Int32) : Int32 := if q_cellok A.1.1 r q then (if 0 ≤ v.toInt ∧ v.toInt ≤ 999 then (if q_sum (2 * A.1.1) A.1.2.2.2.1 - A.1.2.2.2.1 (A.1.1 * q_vI r + q_vI q) + v = 0 then -5 else A.1.2.2.2.1 (A.1.1 * q_vI r + q_vI q)) else -2) else -1
def g_weigh (A : QA) (r q v : Int32) : QA := if q_cellok A.1.1 r q ∧ (0 ≤ v.toInt ∧ v.toInt ≤ 999) ∧ ¬ q_sum (2 * A.1.1) A.1.2.2.2.1 - A.1.2.2.2.1 (A.1.1 * q_vI r + q_vI q) + v = 0 then ((A.1.1, A.1.2.1, A.1.2.2.1, am_ud A.1.2.2.2.1 (A.1.1 * q_vI r + q_vI q) v, A.1.2.2.2.2), q_rec A, A.2.2) else A
section model7
variable {h : AH} {A : QA}
def f_forget (A : QA) (x : Int32) : Int32 := if 0 ≤ x.toInt then q_sum (2 * A.1.1) A.1.2.2.2.2 else -2
def g_forget (A : QA) (x : Int32) : QA := if 0 ≤ x.toInt then ((A.1.1, x, A.1.2.2.1, A.1.2.2.2.1, fun _ => 0), q_rec A, A.2.2) else A
theorem x_lt0I {x : Int32} : (x < 0) = ¬ 0 ≤ x.toInt := by
  rw [Int32.lt_iff_toInt_lt]
  exact propext (Int.not_le).symm
end model7
