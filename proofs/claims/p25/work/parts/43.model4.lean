def q_sure (c : Nat) (g : Nat → Nat → Int32) (k : Nat) : Int32 := if ∀ q, q < q_nq c → ¬ q_ls c g q k < 0 then 1 else 0
section model4
variable {h : AH}
end model4
