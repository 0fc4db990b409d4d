/-! ===== the class: faults, read ===== -/
section cread3
variable {h : AH} {A : QA}
theorem cT.F {h1 : AH} (T : cT h h1) : cF h h1 cN := T.1.c (fun b z => Or.inr (Or.inl (by omega)))
end cread3
