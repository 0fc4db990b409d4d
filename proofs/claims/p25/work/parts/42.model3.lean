def q_recN (n : Nat) : Nat := if n = 6 then 6 else n + 1
def q_recH (n : Nat) (H : Nat → QS) (s : QS) : Nat → QS := if n = 6 then fun i => if i = 5 then s else H (i + 1) else fun i => if i = n then s else H i
section model3
variable {h : AH}
end model3
