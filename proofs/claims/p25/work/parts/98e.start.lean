/-! ===== the state at the beginning ===== -/
def q_A0 : QA := (q_new 2 1, (0, fun _ => q_new 2 1), (fun _ => none), (0, fun _ => 0))
section start
variable {L : Nat} {xs : Nat → Int32}
end start
