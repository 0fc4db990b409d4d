theorem x_m1 (x : Int32) : x + (-1 : Int32) = x - 1 := (Int32.sub_eq_add_neg x 1).symm
section put
variable {h : AH} {A : QA}
end put
