theorem x_lt {a b : Nat} (ha : a < 2147483648) (hb : b < 2147483648) : (nI a < nI b) = (a < b) := q_lt ha hb
theorem x_eq0 {a : Nat} (ha : a < 2147483648) : (nI a = 0) = (a = 0) := q_eq (b := 0) ha (by omega)
theorem x_cl {a : Nat} (ha : a < 2147483648) : (nI a).toNatClampNeg = a := nI_clamp ha
theorem x_sub {a b : Nat} (h : b ≤ a) : nI a - nI b = nI (a - b) := pk_sub h
theorem x_cl0 : (0 : Int32).toNatClampNeg = 0 := rfl
theorem x_RI {h : AH} {b k : Nat} {v : Int32} : am_R (am_sI h b k v) = am_R h := rfl
theorem x_c1 : (1 : Int32) = nI 1 := Eq.trans rfl rfl
theorem x_c2 : (2 : Int32) = nI 2 := Eq.trans rfl rfl
theorem x_c8 : (8 : Int32) = nI 8 := Eq.trans rfl rfl
theorem x_c100 : (100 : Int32) = nI 100 := Eq.trans rfl rfl
theorem x_c6 : (6 : Int32) = nI 6 := Eq.trans rfl rfl
section model
variable {h : AH}
end model
