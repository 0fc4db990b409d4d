/-! ===== calls ===== -/
def sm_B (D : va_G) (dA : Nat → ClassId) (base b L : Nat) (xs : Nat → Int32) (μ : Nat → Nat) (h : AH) (U : State) : Prop := base ≤ U.heap.size ∧ b < base ∧ (∀ w ∈ sm_NT, va_Nw w U) ∧ va_AO RX2 U ∧ va_K D vwCl (sm_TY dA) U ∧ va_X b L xs U U.heap ∧ sm_R D dA base b L xs μ h U.heap
def sm_Q (D : va_G) (dA : Nat → ClassId) (base b L : Nat) (xs : Nat → Int32) (μ : Nat → Nat) (n : Nat) (v : Option Value) (h1 : AH) : Array Value → State → Outcome → State → Prop := match v with
  | none => va_Qv (fun μ' : Nat → Nat => ∀ a, a < n → μ' a = μ a) (fun μ' t => sm_R D dA base b L xs μ' h1 t.heap) (fun q => base ≤ q)
  | some (.int x) => va_Qi (fun (r : Int32) (μ' : Nat → Nat) => r = x ∧ ∀ a, a < n → μ' a = μ a) (fun μ' t => sm_R D dA base b L xs μ' h1 t.heap) (fun q => base ≤ q)
  | some (.long x) => va_Ql (fun (r : Int64) (μ' : Nat → Nat) => r = x ∧ ∀ a, a < n → μ' a = μ a) (fun μ' t => sm_R D dA base b L xs μ' h1 t.heap) (fun q => base ≤ q)
  | some (.ref d) => va_Qr (fun μ' : Nat → Nat => ∀ a, a < n → μ' a = μ a) (fun μ' ra t => ra = μ' d ∧ d < h1.1.length ∧ sm_R D dA base b L xs μ' h1 t.heap) (fun q => base ≤ q)
  | _ => fun _ _ _ _ => False
def sm_vo (v : Option Value) : Prop := v = none ∨ (∃ x, v = some (.int x)) ∨ (∃ x, v = some (.long x)) ∨ ∃ x, v = some (.ref x)
def sm_rm (P : SP) (h h1 : AH) : Room := { frames := P.2.2.2.2.1, cells := h1.1.length - h.1.length, slots := sm_sz h1 - sm_sz h, locals := P.2.2.2.2.2.1 }
def sm_ws (P : SP) : List Cond := .code P.1 P.2.1 P.2.2.1 P.2.2.2.1 :: sm_GT
def sm_call (l : Launch) (D : va_G) (dA : Nat → ClassId) (base b L : Nat) (xs : Nat → Int32) (mi : Nat) (as : List Value) (h : AH) (v : Option Value) (h1 : AH) : Prop := h.1.length ≤ h1.1.length ∧ sm_sz h ≤ sm_sz h1 ∧ sm_vo v ∧ ((∀ w ∈ as, sm_wv h.1.length w) → (am_pad as).length ≤ (sm_P mi).2.2.1 → ∀ μ : Nat → Nat, Met l (sm_P mi).1 (sm_ws (sm_P mi)) (sm_rm (sm_P mi) h h1) (va_Pc (as.map (sm_v μ)) (sm_B D dA base b L xs μ h)) (sm_Q D dA base b L xs μ h.1.length v h1) (h1.1.length - h.1.length) (sm_sz h1 - sm_sz h) (fun q => base ≤ q))
theorem sm_cws0 : ∀ a, a < 0 → Cond.code (sm_P a).1 (sm_P a).2.1 (sm_P a).2.2.1 (sm_P a).2.2.2.1 ∈ lw_tbl := fun _ h => absurd h (Nat.not_lt_zero _)
theorem sm_cws1 : ∀ a, a < 1 → Cond.code (sm_P a).1 (sm_P a).2.1 (sm_P a).2.2.1 (sm_P a).2.2.2.1 ∈ lw_tbl := lt_s sm_cws0 (List.mem_of_getElem? sm_cw0)
theorem sm_cws2 : ∀ a, a < 2 → Cond.code (sm_P a).1 (sm_P a).2.1 (sm_P a).2.2.1 (sm_P a).2.2.2.1 ∈ lw_tbl := lt_s sm_cws1 (List.mem_of_getElem? sm_cw1)
theorem sm_cws3 : ∀ a, a < 3 → Cond.code (sm_P a).1 (sm_P a).2.1 (sm_P a).2.2.1 (sm_P a).2.2.2.1 ∈ lw_tbl := lt_s sm_cws2 (List.mem_of_getElem? sm_cw2)
theorem sm_cws4 : ∀ a, a < 4 → Cond.code (sm_P a).1 (sm_P a).2.1 (sm_P a).2.2.1 (sm_P a).2.2.2.1 ∈ lw_tbl := lt_s sm_cws3 (List.mem_of_getElem? sm_cw3)
theorem sm_cws5 : ∀ a, a < 5 → Cond.code (sm_P a).1 (sm_P a).2.1 (sm_P a).2.2.1 (sm_P a).2.2.2.1 ∈ lw_tbl := lt_s sm_cws4 (List.mem_of_getElem? sm_cw4)
theorem sm_cws6 : ∀ a, a < 6 → Cond.code (sm_P a).1 (sm_P a).2.1 (sm_P a).2.2.1 (sm_P a).2.2.2.1 ∈ lw_tbl := lt_s sm_cws5 (List.mem_of_getElem? sm_cw5)
theorem sm_cws7 : ∀ a, a < 7 → Cond.code (sm_P a).1 (sm_P a).2.1 (sm_P a).2.2.1 (sm_P a).2.2.2.1 ∈ lw_tbl := lt_s sm_cws6 (List.mem_of_getElem? sm_cw6)
theorem sm_cws8 : ∀ a, a < 8 → Cond.code (sm_P a).1 (sm_P a).2.1 (sm_P a).2.2.1 (sm_P a).2.2.2.1 ∈ lw_tbl := lt_s sm_cws7 (List.mem_of_getElem? sm_cw7)
theorem sm_cws9 : ∀ a, a < 9 → Cond.code (sm_P a).1 (sm_P a).2.1 (sm_P a).2.2.1 (sm_P a).2.2.2.1 ∈ lw_tbl := lt_s sm_cws8 (List.mem_of_getElem? sm_cw8)
theorem sm_cws10 : ∀ a, a < 10 → Cond.code (sm_P a).1 (sm_P a).2.1 (sm_P a).2.2.1 (sm_P a).2.2.2.1 ∈ lw_tbl := lt_s sm_cws9 (List.mem_of_getElem? sm_cw9)
theorem sm_cws11 : ∀ a, a < 11 → Cond.code (sm_P a).1 (sm_P a).2.1 (sm_P a).2.2.1 (sm_P a).2.2.2.1 ∈ lw_tbl := lt_s sm_cws10 (List.mem_of_getElem? sm_cw10)
theorem sm_cws12 : ∀ a, a < 12 → Cond.code (sm_P a).1 (sm_P a).2.1 (sm_P a).2.2.1 (sm_P a).2.2.2.1 ∈ lw_tbl := lt_s sm_cws11 (List.mem_of_getElem? sm_cw11)
theorem sm_cws13 : ∀ a, a < 13 → Cond.code (sm_P a).1 (sm_P a).2.1 (sm_P a).2.2.1 (sm_P a).2.2.2.1 ∈ lw_tbl := lt_s sm_cws12 (List.mem_of_getElem? sm_cw12)
theorem sm_cws14 : ∀ a, a < 14 → Cond.code (sm_P a).1 (sm_P a).2.1 (sm_P a).2.2.1 (sm_P a).2.2.2.1 ∈ lw_tbl := lt_s sm_cws13 (List.mem_of_getElem? sm_cw13)
theorem sm_cws15 : ∀ a, a < 15 → Cond.code (sm_P a).1 (sm_P a).2.1 (sm_P a).2.2.1 (sm_P a).2.2.2.1 ∈ lw_tbl := lt_s sm_cws14 (List.mem_of_getElem? sm_cw14)
theorem sm_cws16 : ∀ a, a < 16 → Cond.code (sm_P a).1 (sm_P a).2.1 (sm_P a).2.2.1 (sm_P a).2.2.2.1 ∈ lw_tbl := lt_s sm_cws15 (List.mem_of_getElem? sm_cw15)
theorem sm_cws17 : ∀ a, a < 17 → Cond.code (sm_P a).1 (sm_P a).2.1 (sm_P a).2.2.1 (sm_P a).2.2.2.1 ∈ lw_tbl := lt_s sm_cws16 (List.mem_of_getElem? sm_cw16)
theorem sm_cws18 : ∀ a, a < 18 → Cond.code (sm_P a).1 (sm_P a).2.1 (sm_P a).2.2.1 (sm_P a).2.2.2.1 ∈ lw_tbl := lt_s sm_cws17 (List.mem_of_getElem? sm_cw17)
theorem sm_cws19 : ∀ a, a < 19 → Cond.code (sm_P a).1 (sm_P a).2.1 (sm_P a).2.2.1 (sm_P a).2.2.2.1 ∈ lw_tbl := lt_s sm_cws18 (List.mem_of_getElem? sm_cw18)
theorem sm_cws20 : ∀ a, a < 20 → Cond.code (sm_P a).1 (sm_P a).2.1 (sm_P a).2.2.1 (sm_P a).2.2.2.1 ∈ lw_tbl := lt_s sm_cws19 (List.mem_of_getElem? sm_cw19)
theorem sm_cws21 : ∀ a, a < 21 → Cond.code (sm_P a).1 (sm_P a).2.1 (sm_P a).2.2.1 (sm_P a).2.2.2.1 ∈ lw_tbl := lt_s sm_cws20 (List.mem_of_getElem? sm_cw20)
theorem sm_cws22 : ∀ a, a < 22 → Cond.code (sm_P a).1 (sm_P a).2.1 (sm_P a).2.2.1 (sm_P a).2.2.2.1 ∈ lw_tbl := lt_s sm_cws21 (List.mem_of_getElem? sm_cw21)
theorem sm_cws23 : ∀ a, a < 23 → Cond.code (sm_P a).1 (sm_P a).2.1 (sm_P a).2.2.1 (sm_P a).2.2.2.1 ∈ lw_tbl := lt_s sm_cws22 (List.mem_of_getElem? sm_cw22)
theorem sm_cws24 : ∀ a, a < 24 → Cond.code (sm_P a).1 (sm_P a).2.1 (sm_P a).2.2.1 (sm_P a).2.2.2.1 ∈ lw_tbl := lt_s sm_cws23 (List.mem_of_getElem? sm_cw23)
theorem sm_cws25 : ∀ a, a < 25 → Cond.code (sm_P a).1 (sm_P a).2.1 (sm_P a).2.2.1 (sm_P a).2.2.2.1 ∈ lw_tbl := lt_s sm_cws24 (List.mem_of_getElem? sm_cw24)
theorem sm_cws26 : ∀ a, a < 26 → Cond.code (sm_P a).1 (sm_P a).2.1 (sm_P a).2.2.1 (sm_P a).2.2.2.1 ∈ lw_tbl := lt_s sm_cws25 (List.mem_of_getElem? sm_cw25)
theorem sm_cws27 : ∀ a, a < 27 → Cond.code (sm_P a).1 (sm_P a).2.1 (sm_P a).2.2.1 (sm_P a).2.2.2.1 ∈ lw_tbl := lt_s sm_cws26 (List.mem_of_getElem? sm_cw26)
theorem sm_cws28 : ∀ a, a < 28 → Cond.code (sm_P a).1 (sm_P a).2.1 (sm_P a).2.2.1 (sm_P a).2.2.2.1 ∈ lw_tbl := lt_s sm_cws27 (List.mem_of_getElem? sm_cw27)
theorem sm_cws29 : ∀ a, a < 29 → Cond.code (sm_P a).1 (sm_P a).2.1 (sm_P a).2.2.1 (sm_P a).2.2.2.1 ∈ lw_tbl := lt_s sm_cws28 (List.mem_of_getElem? sm_cw28)
theorem sm_cws30 : ∀ a, a < 30 → Cond.code (sm_P a).1 (sm_P a).2.1 (sm_P a).2.2.1 (sm_P a).2.2.2.1 ∈ lw_tbl := lt_s sm_cws29 (List.mem_of_getElem? sm_cw29)
theorem sm_cws31 : ∀ a, a < 31 → Cond.code (sm_P a).1 (sm_P a).2.1 (sm_P a).2.2.1 (sm_P a).2.2.2.1 ∈ lw_tbl := lt_s sm_cws30 (List.mem_of_getElem? sm_cw30)
theorem sm_cws32 : ∀ a, a < 32 → Cond.code (sm_P a).1 (sm_P a).2.1 (sm_P a).2.2.1 (sm_P a).2.2.2.1 ∈ lw_tbl := lt_s sm_cws31 (List.mem_of_getElem? sm_cw31)
theorem sm_cws33 : ∀ a, a < 33 → Cond.code (sm_P a).1 (sm_P a).2.1 (sm_P a).2.2.1 (sm_P a).2.2.2.1 ∈ lw_tbl := lt_s sm_cws32 (List.mem_of_getElem? sm_cw32)
theorem sm_cws34 : ∀ a, a < 34 → Cond.code (sm_P a).1 (sm_P a).2.1 (sm_P a).2.2.1 (sm_P a).2.2.2.1 ∈ lw_tbl := lt_s sm_cws33 (List.mem_of_getElem? sm_cw33)
theorem sm_cws35 : ∀ a, a < 35 → Cond.code (sm_P a).1 (sm_P a).2.1 (sm_P a).2.2.1 (sm_P a).2.2.2.1 ∈ lw_tbl := lt_s sm_cws34 (List.mem_of_getElem? sm_cw34)
theorem sm_cws36 : ∀ a, a < 36 → Cond.code (sm_P a).1 (sm_P a).2.1 (sm_P a).2.2.1 (sm_P a).2.2.2.1 ∈ lw_tbl := lt_s sm_cws35 (List.mem_of_getElem? sm_cw35)
theorem sm_cws37 : ∀ a, a < 37 → Cond.code (sm_P a).1 (sm_P a).2.1 (sm_P a).2.2.1 (sm_P a).2.2.2.1 ∈ lw_tbl := lt_s sm_cws36 (List.mem_of_getElem? sm_cw36)
theorem sm_cws38 : ∀ a, a < 38 → Cond.code (sm_P a).1 (sm_P a).2.1 (sm_P a).2.2.1 (sm_P a).2.2.2.1 ∈ lw_tbl := lt_s sm_cws37 (List.mem_of_getElem? sm_cw37)
theorem sm_cws39 : ∀ a, a < 39 → Cond.code (sm_P a).1 (sm_P a).2.1 (sm_P a).2.2.1 (sm_P a).2.2.2.1 ∈ lw_tbl := lt_s sm_cws38 (List.mem_of_getElem? sm_cw38)
theorem sm_cws40 : ∀ a, a < 40 → Cond.code (sm_P a).1 (sm_P a).2.1 (sm_P a).2.2.1 (sm_P a).2.2.2.1 ∈ lw_tbl := lt_s sm_cws39 (List.mem_of_getElem? sm_cw39)
theorem sm_cws41 : ∀ a, a < 41 → Cond.code (sm_P a).1 (sm_P a).2.1 (sm_P a).2.2.1 (sm_P a).2.2.2.1 ∈ lw_tbl := lt_s sm_cws40 (List.mem_of_getElem? sm_cw40)
theorem sm_cws42 : ∀ a, a < 42 → Cond.code (sm_P a).1 (sm_P a).2.1 (sm_P a).2.2.1 (sm_P a).2.2.2.1 ∈ lw_tbl := lt_s sm_cws41 (List.mem_of_getElem? sm_cw41)
theorem sm_cws43 : ∀ a, a < 43 → Cond.code (sm_P a).1 (sm_P a).2.1 (sm_P a).2.2.1 (sm_P a).2.2.2.1 ∈ lw_tbl := lt_s sm_cws42 (List.mem_of_getElem? sm_cw42)
theorem sm_cws44 : ∀ a, a < 44 → Cond.code (sm_P a).1 (sm_P a).2.1 (sm_P a).2.2.1 (sm_P a).2.2.2.1 ∈ lw_tbl := lt_s sm_cws43 (List.mem_of_getElem? sm_cw43)
theorem sm_cws45 : ∀ a, a < 45 → Cond.code (sm_P a).1 (sm_P a).2.1 (sm_P a).2.2.1 (sm_P a).2.2.2.1 ∈ lw_tbl := lt_s sm_cws44 (List.mem_of_getElem? sm_cw44)
theorem sm_cws46 : ∀ a, a < 46 → Cond.code (sm_P a).1 (sm_P a).2.1 (sm_P a).2.2.1 (sm_P a).2.2.2.1 ∈ lw_tbl := lt_s sm_cws45 (List.mem_of_getElem? sm_cw45)
theorem sm_cws47 : ∀ a, a < 47 → Cond.code (sm_P a).1 (sm_P a).2.1 (sm_P a).2.2.1 (sm_P a).2.2.2.1 ∈ lw_tbl := lt_s sm_cws46 (List.mem_of_getElem? sm_cw46)
theorem sm_cws48 : ∀ a, a < 48 → Cond.code (sm_P a).1 (sm_P a).2.1 (sm_P a).2.2.1 (sm_P a).2.2.2.1 ∈ lw_tbl := lt_s sm_cws47 (List.mem_of_getElem? sm_cw47)
theorem sm_cws49 : ∀ a, a < 49 → Cond.code (sm_P a).1 (sm_P a).2.1 (sm_P a).2.2.1 (sm_P a).2.2.2.1 ∈ lw_tbl := lt_s sm_cws48 (List.mem_of_getElem? sm_cw48)
theorem sm_cws50 : ∀ a, a < 50 → Cond.code (sm_P a).1 (sm_P a).2.1 (sm_P a).2.2.1 (sm_P a).2.2.2.1 ∈ lw_tbl := lt_s sm_cws49 (List.mem_of_getElem? sm_cw49)
theorem sm_cws51 : ∀ a, a < 51 → Cond.code (sm_P a).1 (sm_P a).2.1 (sm_P a).2.2.1 (sm_P a).2.2.2.1 ∈ lw_tbl := lt_s sm_cws50 (List.mem_of_getElem? sm_cw50)
theorem sm_cws52 : ∀ a, a < 52 → Cond.code (sm_P a).1 (sm_P a).2.1 (sm_P a).2.2.1 (sm_P a).2.2.2.1 ∈ lw_tbl := lt_s sm_cws51 (List.mem_of_getElem? sm_cw51)
theorem sm_cws53 : ∀ a, a < 53 → Cond.code (sm_P a).1 (sm_P a).2.1 (sm_P a).2.2.1 (sm_P a).2.2.2.1 ∈ lw_tbl := lt_s sm_cws52 (List.mem_of_getElem? sm_cw52)
theorem sm_cws54 : ∀ a, a < 54 → Cond.code (sm_P a).1 (sm_P a).2.1 (sm_P a).2.2.1 (sm_P a).2.2.2.1 ∈ lw_tbl := lt_s sm_cws53 (List.mem_of_getElem? sm_cw53)
theorem sm_cws55 : ∀ a, a < 55 → Cond.code (sm_P a).1 (sm_P a).2.1 (sm_P a).2.2.1 (sm_P a).2.2.2.1 ∈ lw_tbl := lt_s sm_cws54 (List.mem_of_getElem? sm_cw54)
theorem sm_cws56 : ∀ a, a < 56 → Cond.code (sm_P a).1 (sm_P a).2.1 (sm_P a).2.2.1 (sm_P a).2.2.2.1 ∈ lw_tbl := lt_s sm_cws55 (List.mem_of_getElem? sm_cw55)
theorem sm_cws57 : ∀ a, a < 57 → Cond.code (sm_P a).1 (sm_P a).2.1 (sm_P a).2.2.1 (sm_P a).2.2.2.1 ∈ lw_tbl := lt_s sm_cws56 (List.mem_of_getElem? sm_cw56)
theorem sm_cws58 : ∀ a, a < 58 → Cond.code (sm_P a).1 (sm_P a).2.1 (sm_P a).2.2.1 (sm_P a).2.2.2.1 ∈ lw_tbl := lt_s sm_cws57 (List.mem_of_getElem? sm_cw57)
theorem sm_cws59 : ∀ a, a < 59 → Cond.code (sm_P a).1 (sm_P a).2.1 (sm_P a).2.2.1 (sm_P a).2.2.2.1 ∈ lw_tbl := lt_s sm_cws58 (List.mem_of_getElem? sm_cw58)
theorem sm_cws60 : ∀ a, a < 60 → Cond.code (sm_P a).1 (sm_P a).2.1 (sm_P a).2.2.1 (sm_P a).2.2.2.1 ∈ lw_tbl := lt_s sm_cws59 (List.mem_of_getElem? sm_cw59)
theorem sm_cws61 : ∀ a, a < 61 → Cond.code (sm_P a).1 (sm_P a).2.1 (sm_P a).2.2.1 (sm_P a).2.2.2.1 ∈ lw_tbl := lt_s sm_cws60 (List.mem_of_getElem? sm_cw60)
theorem sm_cws62 : ∀ a, a < 62 → Cond.code (sm_P a).1 (sm_P a).2.1 (sm_P a).2.2.1 (sm_P a).2.2.2.1 ∈ lw_tbl := lt_s sm_cws61 (List.mem_of_getElem? sm_cw61)
theorem sm_cws63 : ∀ a, a < 63 → Cond.code (sm_P a).1 (sm_P a).2.1 (sm_P a).2.2.1 (sm_P a).2.2.2.1 ∈ lw_tbl := lt_s sm_cws62 (List.mem_of_getElem? sm_cw62)
theorem sm_cws64 : ∀ a, a < 64 → Cond.code (sm_P a).1 (sm_P a).2.1 (sm_P a).2.2.1 (sm_P a).2.2.2.1 ∈ lw_tbl := lt_s sm_cws63 (List.mem_of_getElem? sm_cw63)
theorem sm_cws65 : ∀ a, a < 65 → Cond.code (sm_P a).1 (sm_P a).2.1 (sm_P a).2.2.1 (sm_P a).2.2.2.1 ∈ lw_tbl := lt_s sm_cws64 (List.mem_of_getElem? sm_cw64)
theorem sm_cws66 : ∀ a, a < 66 → Cond.code (sm_P a).1 (sm_P a).2.1 (sm_P a).2.2.1 (sm_P a).2.2.2.1 ∈ lw_tbl := lt_s sm_cws65 (List.mem_of_getElem? sm_cw65)
theorem sm_cws67 : ∀ a, a < 67 → Cond.code (sm_P a).1 (sm_P a).2.1 (sm_P a).2.2.1 (sm_P a).2.2.2.1 ∈ lw_tbl := lt_s sm_cws66 (List.mem_of_getElem? sm_cw66)
theorem sm_cws68 : ∀ a, a < 68 → Cond.code (sm_P a).1 (sm_P a).2.1 (sm_P a).2.2.1 (sm_P a).2.2.2.1 ∈ lw_tbl := lt_s sm_cws67 (List.mem_of_getElem? sm_cw67)
theorem sm_cws69 : ∀ a, a < 69 → Cond.code (sm_P a).1 (sm_P a).2.1 (sm_P a).2.2.1 (sm_P a).2.2.2.1 ∈ lw_tbl := lt_s sm_cws68 (List.mem_of_getElem? sm_cw68)
theorem sm_cws70 : ∀ a, a < 70 → Cond.code (sm_P a).1 (sm_P a).2.1 (sm_P a).2.2.1 (sm_P a).2.2.2.1 ∈ lw_tbl := lt_s sm_cws69 (List.mem_of_getElem? sm_cw69)
theorem sm_cws71 : ∀ a, a < 71 → Cond.code (sm_P a).1 (sm_P a).2.1 (sm_P a).2.2.1 (sm_P a).2.2.2.1 ∈ lw_tbl := lt_s sm_cws70 (List.mem_of_getElem? sm_cw70)
theorem sm_cws72 : ∀ a, a < 72 → Cond.code (sm_P a).1 (sm_P a).2.1 (sm_P a).2.2.1 (sm_P a).2.2.2.1 ∈ lw_tbl := lt_s sm_cws71 (List.mem_of_getElem? sm_cw71)
theorem sm_cws73 : ∀ a, a < 73 → Cond.code (sm_P a).1 (sm_P a).2.1 (sm_P a).2.2.1 (sm_P a).2.2.2.1 ∈ lw_tbl := lt_s sm_cws72 (List.mem_of_getElem? sm_cw72)
theorem sm_cws74 : ∀ a, a < 74 → Cond.code (sm_P a).1 (sm_P a).2.1 (sm_P a).2.2.1 (sm_P a).2.2.2.1 ∈ lw_tbl := lt_s sm_cws73 (List.mem_of_getElem? sm_cw73)
theorem sm_cws75 : ∀ a, a < 75 → Cond.code (sm_P a).1 (sm_P a).2.1 (sm_P a).2.2.1 (sm_P a).2.2.2.1 ∈ lw_tbl := lt_s sm_cws74 (List.mem_of_getElem? sm_cw74)
theorem sm_cws76 : ∀ a, a < 76 → Cond.code (sm_P a).1 (sm_P a).2.1 (sm_P a).2.2.1 (sm_P a).2.2.2.1 ∈ lw_tbl := lt_s sm_cws75 (List.mem_of_getElem? sm_cw75)
theorem sm_cws77 : ∀ a, a < 77 → Cond.code (sm_P a).1 (sm_P a).2.1 (sm_P a).2.2.1 (sm_P a).2.2.2.1 ∈ lw_tbl := lt_s sm_cws76 (List.mem_of_getElem? sm_cw76)
theorem sm_cws78 : ∀ a, a < 78 → Cond.code (sm_P a).1 (sm_P a).2.1 (sm_P a).2.2.1 (sm_P a).2.2.2.1 ∈ lw_tbl := lt_s sm_cws77 (List.mem_of_getElem? sm_cw77)
theorem sm_cws79 : ∀ a, a < 79 → Cond.code (sm_P a).1 (sm_P a).2.1 (sm_P a).2.2.1 (sm_P a).2.2.2.1 ∈ lw_tbl := lt_s sm_cws78 (List.mem_of_getElem? sm_cw78)
theorem sm_cws80 : ∀ a, a < 80 → Cond.code (sm_P a).1 (sm_P a).2.1 (sm_P a).2.2.1 (sm_P a).2.2.2.1 ∈ lw_tbl := lt_s sm_cws79 (List.mem_of_getElem? sm_cw79)
theorem sm_cws81 : ∀ a, a < 81 → Cond.code (sm_P a).1 (sm_P a).2.1 (sm_P a).2.2.1 (sm_P a).2.2.2.1 ∈ lw_tbl := lt_s sm_cws80 (List.mem_of_getElem? sm_cw80)
theorem sm_cws82 : ∀ a, a < 82 → Cond.code (sm_P a).1 (sm_P a).2.1 (sm_P a).2.2.1 (sm_P a).2.2.2.1 ∈ lw_tbl := lt_s sm_cws81 (List.mem_of_getElem? sm_cw81)
theorem sm_cws83 : ∀ a, a < 83 → Cond.code (sm_P a).1 (sm_P a).2.1 (sm_P a).2.2.1 (sm_P a).2.2.2.1 ∈ lw_tbl := lt_s sm_cws82 (List.mem_of_getElem? sm_cw82)
theorem sm_cws84 : ∀ a, a < 84 → Cond.code (sm_P a).1 (sm_P a).2.1 (sm_P a).2.2.1 (sm_P a).2.2.2.1 ∈ lw_tbl := lt_s sm_cws83 (List.mem_of_getElem? sm_cw83)
theorem sm_cws85 : ∀ a, a < 85 → Cond.code (sm_P a).1 (sm_P a).2.1 (sm_P a).2.2.1 (sm_P a).2.2.2.1 ∈ lw_tbl := lt_s sm_cws84 (List.mem_of_getElem? sm_cw84)
theorem sm_cws86 : ∀ a, a < 86 → Cond.code (sm_P a).1 (sm_P a).2.1 (sm_P a).2.2.1 (sm_P a).2.2.2.1 ∈ lw_tbl := lt_s sm_cws85 (List.mem_of_getElem? sm_cw85)
theorem sm_cws87 : ∀ a, a < 87 → Cond.code (sm_P a).1 (sm_P a).2.1 (sm_P a).2.2.1 (sm_P a).2.2.2.1 ∈ lw_tbl := lt_s sm_cws86 (List.mem_of_getElem? sm_cw86)
theorem sm_cws88 : ∀ a, a < 88 → Cond.code (sm_P a).1 (sm_P a).2.1 (sm_P a).2.2.1 (sm_P a).2.2.2.1 ∈ lw_tbl := lt_s sm_cws87 (List.mem_of_getElem? sm_cw87)
theorem sm_cws89 : ∀ a, a < 89 → Cond.code (sm_P a).1 (sm_P a).2.1 (sm_P a).2.2.1 (sm_P a).2.2.2.1 ∈ lw_tbl := lt_s sm_cws88 (List.mem_of_getElem? sm_cw88)
theorem sm_cws90 : ∀ a, a < 90 → Cond.code (sm_P a).1 (sm_P a).2.1 (sm_P a).2.2.1 (sm_P a).2.2.2.1 ∈ lw_tbl := lt_s sm_cws89 (List.mem_of_getElem? sm_cw89)
theorem sm_cws91 : ∀ a, a < 91 → Cond.code (sm_P a).1 (sm_P a).2.1 (sm_P a).2.2.1 (sm_P a).2.2.2.1 ∈ lw_tbl := lt_s sm_cws90 (List.mem_of_getElem? sm_cw90)
theorem sm_cws92 : ∀ a, a < 92 → Cond.code (sm_P a).1 (sm_P a).2.1 (sm_P a).2.2.1 (sm_P a).2.2.2.1 ∈ lw_tbl := lt_s sm_cws91 (List.mem_of_getElem? sm_cw91)
theorem sm_cws93 : ∀ a, a < 93 → Cond.code (sm_P a).1 (sm_P a).2.1 (sm_P a).2.2.1 (sm_P a).2.2.2.1 ∈ lw_tbl := lt_s sm_cws92 (List.mem_of_getElem? sm_cw92)
theorem sm_cws94 : ∀ a, a < 94 → Cond.code (sm_P a).1 (sm_P a).2.1 (sm_P a).2.2.1 (sm_P a).2.2.2.1 ∈ lw_tbl := lt_s sm_cws93 (List.mem_of_getElem? sm_cw93)
theorem sm_cws95 : ∀ a, a < 95 → Cond.code (sm_P a).1 (sm_P a).2.1 (sm_P a).2.2.1 (sm_P a).2.2.2.1 ∈ lw_tbl := lt_s sm_cws94 (List.mem_of_getElem? sm_cw94)
theorem sm_cws96 : ∀ a, a < 96 → Cond.code (sm_P a).1 (sm_P a).2.1 (sm_P a).2.2.1 (sm_P a).2.2.2.1 ∈ lw_tbl := lt_s sm_cws95 (List.mem_of_getElem? sm_cw95)
theorem sm_cws97 : ∀ a, a < 97 → Cond.code (sm_P a).1 (sm_P a).2.1 (sm_P a).2.2.1 (sm_P a).2.2.2.1 ∈ lw_tbl := lt_s sm_cws96 (List.mem_of_getElem? sm_cw96)
theorem sm_cws98 : ∀ a, a < 98 → Cond.code (sm_P a).1 (sm_P a).2.1 (sm_P a).2.2.1 (sm_P a).2.2.2.1 ∈ lw_tbl := lt_s sm_cws97 (List.mem_of_getElem? sm_cw97)
theorem sm_cws99 : ∀ a, a < 99 → Cond.code (sm_P a).1 (sm_P a).2.1 (sm_P a).2.2.1 (sm_P a).2.2.2.1 ∈ lw_tbl := lt_s sm_cws98 (List.mem_of_getElem? sm_cw98)
theorem sm_cws100 : ∀ a, a < 100 → Cond.code (sm_P a).1 (sm_P a).2.1 (sm_P a).2.2.1 (sm_P a).2.2.2.1 ∈ lw_tbl := lt_s sm_cws99 (List.mem_of_getElem? sm_cw99)
theorem sm_cws101 : ∀ a, a < 101 → Cond.code (sm_P a).1 (sm_P a).2.1 (sm_P a).2.2.1 (sm_P a).2.2.2.1 ∈ lw_tbl := lt_s sm_cws100 (List.mem_of_getElem? sm_cw100)
theorem sm_cws102 : ∀ a, a < 102 → Cond.code (sm_P a).1 (sm_P a).2.1 (sm_P a).2.2.1 (sm_P a).2.2.2.1 ∈ lw_tbl := lt_s sm_cws101 (List.mem_of_getElem? sm_cw101)
theorem sm_cws103 : ∀ a, a < 103 → Cond.code (sm_P a).1 (sm_P a).2.1 (sm_P a).2.2.1 (sm_P a).2.2.2.1 ∈ lw_tbl := lt_s sm_cws102 (List.mem_of_getElem? sm_cw102)
theorem sm_cws104 : ∀ a, a < 104 → Cond.code (sm_P a).1 (sm_P a).2.1 (sm_P a).2.2.1 (sm_P a).2.2.2.1 ∈ lw_tbl := lt_s sm_cws103 (List.mem_of_getElem? sm_cw103)
theorem sm_cws105 : ∀ a, a < 105 → Cond.code (sm_P a).1 (sm_P a).2.1 (sm_P a).2.2.1 (sm_P a).2.2.2.1 ∈ lw_tbl := lt_s sm_cws104 (List.mem_of_getElem? sm_cw104)
theorem sm_cws106 : ∀ a, a < 106 → Cond.code (sm_P a).1 (sm_P a).2.1 (sm_P a).2.2.1 (sm_P a).2.2.2.1 ∈ lw_tbl := lt_s sm_cws105 (List.mem_of_getElem? sm_cw105)
theorem sm_cws107 : ∀ a, a < 107 → Cond.code (sm_P a).1 (sm_P a).2.1 (sm_P a).2.2.1 (sm_P a).2.2.2.1 ∈ lw_tbl := lt_s sm_cws106 (List.mem_of_getElem? sm_cw106)
theorem sm_cws108 : ∀ a, a < 108 → Cond.code (sm_P a).1 (sm_P a).2.1 (sm_P a).2.2.1 (sm_P a).2.2.2.1 ∈ lw_tbl := lt_s sm_cws107 (List.mem_of_getElem? sm_cw107)
theorem sm_cws109 : ∀ a, a < 109 → Cond.code (sm_P a).1 (sm_P a).2.1 (sm_P a).2.2.1 (sm_P a).2.2.2.1 ∈ lw_tbl := lt_s sm_cws108 (List.mem_of_getElem? sm_cw108)
theorem sm_cws110 : ∀ a, a < 110 → Cond.code (sm_P a).1 (sm_P a).2.1 (sm_P a).2.2.1 (sm_P a).2.2.2.1 ∈ lw_tbl := lt_s sm_cws109 (List.mem_of_getElem? sm_cw109)
theorem sm_cws111 : ∀ a, a < 111 → Cond.code (sm_P a).1 (sm_P a).2.1 (sm_P a).2.2.1 (sm_P a).2.2.2.1 ∈ lw_tbl := lt_s sm_cws110 (List.mem_of_getElem? sm_cw110)
theorem sm_cws112 : ∀ a, a < 112 → Cond.code (sm_P a).1 (sm_P a).2.1 (sm_P a).2.2.1 (sm_P a).2.2.2.1 ∈ lw_tbl := lt_s sm_cws111 (List.mem_of_getElem? sm_cw111)
theorem sm_cws113 : ∀ a, a < 113 → Cond.code (sm_P a).1 (sm_P a).2.1 (sm_P a).2.2.1 (sm_P a).2.2.2.1 ∈ lw_tbl := lt_s sm_cws112 (List.mem_of_getElem? sm_cw112)
theorem sm_cws114 : ∀ a, a < 114 → Cond.code (sm_P a).1 (sm_P a).2.1 (sm_P a).2.2.1 (sm_P a).2.2.2.1 ∈ lw_tbl := lt_s sm_cws113 (List.mem_of_getElem? sm_cw113)
theorem sm_cws115 : ∀ a, a < 115 → Cond.code (sm_P a).1 (sm_P a).2.1 (sm_P a).2.2.1 (sm_P a).2.2.2.1 ∈ lw_tbl := lt_s sm_cws114 (List.mem_of_getElem? sm_cw114)
theorem sm_cws116 : ∀ a, a < 116 → Cond.code (sm_P a).1 (sm_P a).2.1 (sm_P a).2.2.1 (sm_P a).2.2.2.1 ∈ lw_tbl := lt_s sm_cws115 (List.mem_of_getElem? sm_cw115)
theorem sm_cws117 : ∀ a, a < 117 → Cond.code (sm_P a).1 (sm_P a).2.1 (sm_P a).2.2.1 (sm_P a).2.2.2.1 ∈ lw_tbl := lt_s sm_cws116 (List.mem_of_getElem? sm_cw116)
theorem sm_cws118 : ∀ a, a < 118 → Cond.code (sm_P a).1 (sm_P a).2.1 (sm_P a).2.2.1 (sm_P a).2.2.2.1 ∈ lw_tbl := lt_s sm_cws117 (List.mem_of_getElem? sm_cw117)
theorem sm_cws119 : ∀ a, a < 119 → Cond.code (sm_P a).1 (sm_P a).2.1 (sm_P a).2.2.1 (sm_P a).2.2.2.1 ∈ lw_tbl := lt_s sm_cws118 (List.mem_of_getElem? sm_cw118)
theorem sm_cws120 : ∀ a, a < 120 → Cond.code (sm_P a).1 (sm_P a).2.1 (sm_P a).2.2.1 (sm_P a).2.2.2.1 ∈ lw_tbl := lt_s sm_cws119 (List.mem_of_getElem? sm_cw119)
theorem sm_cws121 : ∀ a, a < 121 → Cond.code (sm_P a).1 (sm_P a).2.1 (sm_P a).2.2.1 (sm_P a).2.2.2.1 ∈ lw_tbl := lt_s sm_cws120 (List.mem_of_getElem? sm_cw120)
theorem sm_cws122 : ∀ a, a < 122 → Cond.code (sm_P a).1 (sm_P a).2.1 (sm_P a).2.2.1 (sm_P a).2.2.2.1 ∈ lw_tbl := lt_s sm_cws121 (List.mem_of_getElem? sm_cw121)
theorem sm_cws123 : ∀ a, a < 123 → Cond.code (sm_P a).1 (sm_P a).2.1 (sm_P a).2.2.1 (sm_P a).2.2.2.1 ∈ lw_tbl := lt_s sm_cws122 (List.mem_of_getElem? sm_cw122)
theorem sm_cws124 : ∀ a, a < 124 → Cond.code (sm_P a).1 (sm_P a).2.1 (sm_P a).2.2.1 (sm_P a).2.2.2.1 ∈ lw_tbl := lt_s sm_cws123 (List.mem_of_getElem? sm_cw123)
theorem sm_cws125 : ∀ a, a < 125 → Cond.code (sm_P a).1 (sm_P a).2.1 (sm_P a).2.2.1 (sm_P a).2.2.2.1 ∈ lw_tbl := lt_s sm_cws124 (List.mem_of_getElem? sm_cw124)
theorem sm_cws126 : ∀ a, a < 126 → Cond.code (sm_P a).1 (sm_P a).2.1 (sm_P a).2.2.1 (sm_P a).2.2.2.1 ∈ lw_tbl := lt_s sm_cws125 (List.mem_of_getElem? sm_cw125)
theorem sm_cws127 : ∀ a, a < 127 → Cond.code (sm_P a).1 (sm_P a).2.1 (sm_P a).2.2.1 (sm_P a).2.2.2.1 ∈ lw_tbl := lt_s sm_cws126 (List.mem_of_getElem? sm_cw126)
theorem sm_cws128 : ∀ a, a < 128 → Cond.code (sm_P a).1 (sm_P a).2.1 (sm_P a).2.2.1 (sm_P a).2.2.2.1 ∈ lw_tbl := lt_s sm_cws127 (List.mem_of_getElem? sm_cw127)
theorem sm_cws129 : ∀ a, a < 129 → Cond.code (sm_P a).1 (sm_P a).2.1 (sm_P a).2.2.1 (sm_P a).2.2.2.1 ∈ lw_tbl := lt_s sm_cws128 (List.mem_of_getElem? sm_cw128)
theorem sm_cws130 : ∀ a, a < 130 → Cond.code (sm_P a).1 (sm_P a).2.1 (sm_P a).2.2.1 (sm_P a).2.2.2.1 ∈ lw_tbl := lt_s sm_cws129 (List.mem_of_getElem? sm_cw129)
theorem sm_cws131 : ∀ a, a < 131 → Cond.code (sm_P a).1 (sm_P a).2.1 (sm_P a).2.2.1 (sm_P a).2.2.2.1 ∈ lw_tbl := lt_s sm_cws130 (List.mem_of_getElem? sm_cw130)
theorem sm_cws132 : ∀ a, a < 132 → Cond.code (sm_P a).1 (sm_P a).2.1 (sm_P a).2.2.1 (sm_P a).2.2.2.1 ∈ lw_tbl := lt_s sm_cws131 (List.mem_of_getElem? sm_cw131)
theorem sm_cws133 : ∀ a, a < 133 → Cond.code (sm_P a).1 (sm_P a).2.1 (sm_P a).2.2.1 (sm_P a).2.2.2.1 ∈ lw_tbl := lt_s sm_cws132 (List.mem_of_getElem? sm_cw132)
theorem sm_cws134 : ∀ a, a < 134 → Cond.code (sm_P a).1 (sm_P a).2.1 (sm_P a).2.2.1 (sm_P a).2.2.2.1 ∈ lw_tbl := lt_s sm_cws133 (List.mem_of_getElem? sm_cw133)
theorem sm_cws135 : ∀ a, a < 135 → Cond.code (sm_P a).1 (sm_P a).2.1 (sm_P a).2.2.1 (sm_P a).2.2.2.1 ∈ lw_tbl := lt_s sm_cws134 (List.mem_of_getElem? sm_cw134)
theorem sm_cws136 : ∀ a, a < 136 → Cond.code (sm_P a).1 (sm_P a).2.1 (sm_P a).2.2.1 (sm_P a).2.2.2.1 ∈ lw_tbl := lt_s sm_cws135 (List.mem_of_getElem? sm_cw135)
theorem sm_cws137 : ∀ a, a < 137 → Cond.code (sm_P a).1 (sm_P a).2.1 (sm_P a).2.2.1 (sm_P a).2.2.2.1 ∈ lw_tbl := lt_s sm_cws136 (List.mem_of_getElem? sm_cw136)
theorem sm_cws138 : ∀ a, a < 138 → Cond.code (sm_P a).1 (sm_P a).2.1 (sm_P a).2.2.1 (sm_P a).2.2.2.1 ∈ lw_tbl := lt_s sm_cws137 (List.mem_of_getElem? sm_cw137)
theorem sm_cws139 : ∀ a, a < 139 → Cond.code (sm_P a).1 (sm_P a).2.1 (sm_P a).2.2.1 (sm_P a).2.2.2.1 ∈ lw_tbl := lt_s sm_cws138 (List.mem_of_getElem? sm_cw138)
theorem sm_cws140 : ∀ a, a < 140 → Cond.code (sm_P a).1 (sm_P a).2.1 (sm_P a).2.2.1 (sm_P a).2.2.2.1 ∈ lw_tbl := lt_s sm_cws139 (List.mem_of_getElem? sm_cw139)
theorem sm_cws141 : ∀ a, a < 141 → Cond.code (sm_P a).1 (sm_P a).2.1 (sm_P a).2.2.1 (sm_P a).2.2.2.1 ∈ lw_tbl := lt_s sm_cws140 (List.mem_of_getElem? sm_cw140)
theorem sm_cws142 : ∀ a, a < 142 → Cond.code (sm_P a).1 (sm_P a).2.1 (sm_P a).2.2.1 (sm_P a).2.2.2.1 ∈ lw_tbl := lt_s sm_cws141 (List.mem_of_getElem? sm_cw141)
theorem sm_cws143 : ∀ a, a < 143 → Cond.code (sm_P a).1 (sm_P a).2.1 (sm_P a).2.2.1 (sm_P a).2.2.2.1 ∈ lw_tbl := lt_s sm_cws142 (List.mem_of_getElem? sm_cw142)
theorem sm_cws144 : ∀ a, a < 144 → Cond.code (sm_P a).1 (sm_P a).2.1 (sm_P a).2.2.1 (sm_P a).2.2.2.1 ∈ lw_tbl := lt_s sm_cws143 (List.mem_of_getElem? sm_cw143)
theorem sm_cws145 : ∀ a, a < 145 → Cond.code (sm_P a).1 (sm_P a).2.1 (sm_P a).2.2.1 (sm_P a).2.2.2.1 ∈ lw_tbl := lt_s sm_cws144 (List.mem_of_getElem? sm_cw144)
theorem sm_cws146 : ∀ a, a < 146 → Cond.code (sm_P a).1 (sm_P a).2.1 (sm_P a).2.2.1 (sm_P a).2.2.2.1 ∈ lw_tbl := lt_s sm_cws145 (List.mem_of_getElem? sm_cw145)
theorem sm_cws147 : ∀ a, a < 147 → Cond.code (sm_P a).1 (sm_P a).2.1 (sm_P a).2.2.1 (sm_P a).2.2.2.1 ∈ lw_tbl := lt_s sm_cws146 (List.mem_of_getElem? sm_cw146)
theorem sm_cws148 : ∀ a, a < 148 → Cond.code (sm_P a).1 (sm_P a).2.1 (sm_P a).2.2.1 (sm_P a).2.2.2.1 ∈ lw_tbl := lt_s sm_cws147 (List.mem_of_getElem? sm_cw147)
theorem sm_cws149 : ∀ a, a < 149 → Cond.code (sm_P a).1 (sm_P a).2.1 (sm_P a).2.2.1 (sm_P a).2.2.2.1 ∈ lw_tbl := lt_s sm_cws148 (List.mem_of_getElem? sm_cw148)
theorem sm_cws150 : ∀ a, a < 150 → Cond.code (sm_P a).1 (sm_P a).2.1 (sm_P a).2.2.1 (sm_P a).2.2.2.1 ∈ lw_tbl := lt_s sm_cws149 (List.mem_of_getElem? sm_cw149)
theorem sm_cws151 : ∀ a, a < 151 → Cond.code (sm_P a).1 (sm_P a).2.1 (sm_P a).2.2.1 (sm_P a).2.2.2.1 ∈ lw_tbl := lt_s sm_cws150 (List.mem_of_getElem? sm_cw150)
theorem sm_cws152 : ∀ a, a < 152 → Cond.code (sm_P a).1 (sm_P a).2.1 (sm_P a).2.2.1 (sm_P a).2.2.2.1 ∈ lw_tbl := lt_s sm_cws151 (List.mem_of_getElem? sm_cw151)
theorem sm_cws153 : ∀ a, a < 153 → Cond.code (sm_P a).1 (sm_P a).2.1 (sm_P a).2.2.1 (sm_P a).2.2.2.1 ∈ lw_tbl := lt_s sm_cws152 (List.mem_of_getElem? sm_cw152)
theorem sm_cws154 : ∀ a, a < 154 → Cond.code (sm_P a).1 (sm_P a).2.1 (sm_P a).2.2.1 (sm_P a).2.2.2.1 ∈ lw_tbl := lt_s sm_cws153 (List.mem_of_getElem? sm_cw153)
theorem sm_cws155 : ∀ a, a < 155 → Cond.code (sm_P a).1 (sm_P a).2.1 (sm_P a).2.2.1 (sm_P a).2.2.2.1 ∈ lw_tbl := lt_s sm_cws154 (List.mem_of_getElem? sm_cw154)
theorem sm_cws156 : ∀ a, a < 156 → Cond.code (sm_P a).1 (sm_P a).2.1 (sm_P a).2.2.1 (sm_P a).2.2.2.1 ∈ lw_tbl := lt_s sm_cws155 (List.mem_of_getElem? sm_cw155)
theorem sm_cws157 : ∀ a, a < 157 → Cond.code (sm_P a).1 (sm_P a).2.1 (sm_P a).2.2.1 (sm_P a).2.2.2.1 ∈ lw_tbl := lt_s sm_cws156 (List.mem_of_getElem? sm_cw156)
theorem sm_cws158 : ∀ a, a < 158 → Cond.code (sm_P a).1 (sm_P a).2.1 (sm_P a).2.2.1 (sm_P a).2.2.2.1 ∈ lw_tbl := lt_s sm_cws157 (List.mem_of_getElem? sm_cw157)
theorem sm_cws159 : ∀ a, a < 159 → Cond.code (sm_P a).1 (sm_P a).2.1 (sm_P a).2.2.1 (sm_P a).2.2.2.1 ∈ lw_tbl := lt_s sm_cws158 (List.mem_of_getElem? sm_cw158)
theorem sm_cws160 : ∀ a, a < 160 → Cond.code (sm_P a).1 (sm_P a).2.1 (sm_P a).2.2.1 (sm_P a).2.2.2.1 ∈ lw_tbl := lt_s sm_cws159 (List.mem_of_getElem? sm_cw159)
theorem sm_cws161 : ∀ a, a < 161 → Cond.code (sm_P a).1 (sm_P a).2.1 (sm_P a).2.2.1 (sm_P a).2.2.2.1 ∈ lw_tbl := lt_s sm_cws160 (List.mem_of_getElem? sm_cw160)
theorem sm_cws162 : ∀ a, a < 162 → Cond.code (sm_P a).1 (sm_P a).2.1 (sm_P a).2.2.1 (sm_P a).2.2.2.1 ∈ lw_tbl := lt_s sm_cws161 (List.mem_of_getElem? sm_cw161)
theorem sm_cws163 : ∀ a, a < 163 → Cond.code (sm_P a).1 (sm_P a).2.1 (sm_P a).2.2.1 (sm_P a).2.2.2.1 ∈ lw_tbl := lt_s sm_cws162 (List.mem_of_getElem? sm_cw162)
theorem sm_cws164 : ∀ a, a < 164 → Cond.code (sm_P a).1 (sm_P a).2.1 (sm_P a).2.2.1 (sm_P a).2.2.2.1 ∈ lw_tbl := lt_s sm_cws163 (List.mem_of_getElem? sm_cw163)
theorem sm_cws165 : ∀ a, a < 165 → Cond.code (sm_P a).1 (sm_P a).2.1 (sm_P a).2.2.1 (sm_P a).2.2.2.1 ∈ lw_tbl := lt_s sm_cws164 (List.mem_of_getElem? sm_cw164)
theorem sm_meth {mi : Nat} (hmi : mi < 165) : Cond.code (sm_P mi).1 (sm_P mi).2.1 (sm_P mi).2.2.1 (sm_P mi).2.2.2.1 ∈ sm_GT ∧ plainFor (sm_P mi).1 = true ∧ Cond.initialized (sm_P mi).1.cls ∈ sm_GT ∧ ((sm_P mi).1.cls ≠ "java/lang/invoke/MethodHandle" ∧ (sm_P mi).1.cls ≠ "java/lang/invoke/VarHandle" ∧ (parseMethodDescriptor (sm_P mi).1.desc).map (fun d => d.parameters.length) = some (sm_P mi).2.2.2.2.2.2.2) ∧ ((sm_P mi).2.2.2.2.2.2.1 = true → Cond.static (sm_P mi).1 ∈ sm_GT) ∧ ((sm_P mi).2.2.2.2.2.2.1 = false → Cond.instanceMethod (sm_P mi).1 ∈ sm_GT ∧ ((sm_P mi).1.name = "<init>" ∨ Cond.selects (sm_P mi).1.cls (sm_P mi).1 (sm_P mi).1 ∈ sm_GT)) := by
  have hlen : sm_mw.length = 165 := rfl
  have hz : ((List.range 165).zip sm_mw)[mi]? = some (mi, sm_mw[mi]'(by omega)) := by
    rw [List.getElem?_zip_eq_some]
    exact ⟨List.getElem?_range hmi, List.getElem?_eq_getElem (by omega)⟩
  have h := List.all_eq_true.mp sm_mws _ (List.mem_of_getElem? hz)
  dsimp only at h
  generalize sm_mw[mi]'(by omega) = q at h
  unfold sm_mB at h
  simp only [Bool.and_eq_true, decide_eq_true_eq] at h
  obtain ⟨h1, h2, h3, h4⟩ := h
  refine ⟨List.mem_filter.mpr ⟨sm_cws165 mi hmi, rfl⟩, h1, List.mem_filter.mpr ⟨List.mem_of_getElem? h2, rfl⟩, h3, fun hs => ?_, fun hs => ?_⟩
  · rw [hs] at h4
    have h4 : decide (lw_tbl[q.2.2.1]? = some (Cond.static (sm_P mi).1)) = true := h4
    exact List.mem_filter.mpr ⟨List.mem_of_getElem? (of_decide_eq_true h4), rfl⟩
  · rw [hs] at h4
    have h4 : (decide (lw_tbl[q.2.2.1]? = some (Cond.instanceMethod (sm_P mi).1)) && (decide ((sm_P mi).1.name = "<init>") || decide (lw_tbl[q.2.2.2]? = some (Cond.selects (sm_P mi).1.cls (sm_P mi).1 (sm_P mi).1)))) = true := h4
    simp only [Bool.and_eq_true, Bool.or_eq_true, decide_eq_true_eq] at h4
    exact ⟨List.mem_filter.mpr ⟨List.mem_of_getElem? h4.1, rfl⟩, h4.2.imp id (fun z => List.mem_filter.mpr ⟨List.mem_of_getElem? z, rfl⟩)⟩
theorem sm_GI {Ts ws : List Cond} (hG : ∀ w ∈ sm_GT, w ∈ Ts) (h : ∀ w ∈ ws, w ∈ sm_GT) : GoodIn Ts ws := fun w hw => ⟨hG w (h w hw), good_of_word (List.mem_filter.mp (h w hw)).2⟩
theorem sm_ws_in {mi : Nat} (hmi : mi < 165) : ∀ w ∈ sm_ws (sm_P mi), w ∈ sm_GT := fun w hw => by
  rcases List.mem_cons.mp hw with rfl | hw
  · exact (sm_meth hmi).1
  · exact hw
theorem sm_pop : ∀ (n : Nat) (st acc as r : List Value), am_pop n st acc = some (as, r) → ∃ q, q.length = n ∧ st = q ++ r ∧ as = q.reverse ++ acc
  | 0, st, acc, as, r, h => by cases h; exact ⟨[], rfl, rfl, rfl⟩
  | n + 1, [], acc, as, r, h => by cases h
  | n + 1, v :: st, acc, as, r, h => by
    obtain ⟨q, h1, h2, h3⟩ := sm_pop n st (v :: acc) as r h
    exact ⟨v :: q, by simp [h1], by rw [h2]; rfl, by rw [h3]; simp⟩
theorem sm_w8 (μ : Nat → Nat) (r : List Value) : ((r.map (sm_v μ)).map fun v => v.category).sum = am_w8 r := by
  unfold am_w8
  rw [List.map_map]
  congr 2
  funext v
  exact sm_cat μ v
theorem sm_NT_same {u U : State} (hv : u.vm = U.vm) (h : ∀ w ∈ sm_NT, va_Nw w u) : ∀ w ∈ sm_NT, va_Nw w U := by
  intro w hw
  have h1 := (List.mem_filter.mp hw).2
  have h2 := h w hw
  unfold sm_isN at h1
  split at h1
  · exact va_Nw.same rfl hv h2
  · cases h1
theorem sm_B.blind {D : va_G} {dA : Nat → ClassId} {base b L : Nat} {xs : Nat → Int32} {μ : Nat → Nat} {h : AH} {as : List Value} : FrameBlind (va_Pc as (sm_B D dA base b L xs μ h)) := by
  intro a U g mk hq
  obtain ⟨q0, q1, q2, q3, q4, q5, q6, q7⟩ := hq
  exact ⟨q0, q1, q2, sm_NT_same (u := U) (U := U.calling g mk a) rfl q3, va_AO.moved (u := U) (U := U.calling g mk a) (Vm.Alike.refl U.vm) q4, va_K.moved (u := U) (U := U.calling g mk a) (Vm.Alike.refl U.vm) q5, va_X.moved (u := U) (U := U.calling g mk a) (Vm.Alike.refl U.vm) q6, q7⟩
theorem sm_NT_warm {s U : State} (hW : s.WarmedH U.vm) (h : ∀ w ∈ sm_NT, va_Nw w s) : ∀ w ∈ sm_NT, va_Nw w U := by
  intro w hw
  have h1 := (List.mem_filter.mp hw).2
  have h2 := h w hw
  unfold sm_isN at h1
  split at h1
  · exact va_Nw.warmM hW h2
  · cases h1
theorem sm_rB_0 {r : Option FieldType} (h : sm_rB 0 r = true) : r = none := by
  unfold sm_rB at h
  split at h <;> first | rfl | (rename_i z; cases z) | cases h
section calls
variable {p : Program} {l : Launch} {e : Env} {R : Room} {s : State} {m : MethodId} {args : Array Value} {below : List Frame} {meth : Method} {c : Code} {Q : State → Prop}
variable {P : SP} {Ts : List Cond} {D : va_G} {dA : Nat → ClassId} {base b L : Nat} {xs : Nat → Int32} {μ0 : Nat → Nat} {n0 cE sE : Nat} {F : AH}
variable {CL : Nat → Nat → Nat → List Value → Nat → List Value → List Value → AH → Prop} {RT : Option Value → AH → Prop} {rk : Nat} {ts : List Nat} {cv : Int32} {cj : Int64} {ls st : List Value} {h : AH} {pc : Nat}
/-- behind a call -/
theorem sm_after  {mc ms : Nat} {a : Array Value} {v : Option Value} {h1 : AH} {rest st0 : List Value} {μ : Nat → Nat} {H : Heap} {locs : List Loc} {cells slots : Nat} {A : Array Slot}
    (hle : h.1.length ≤ h1.1.length) (hlz : sm_sz h ≤ sm_sz h1) (hvo : sm_vo v) (hmc : mc = h1.1.length - h.1.length) (hms : ms = sm_sz h1 - sm_sz h)
    (hr : va_Run p l e R s m args below meth c H locs cells slots mc ms (F0 m pc A st0) (rest.map (sm_v μ)) (sm_Q D dA base b L xs μ h.1.length v h1 a) (fun q => base ≤ q))
    (hn : n0 ≤ h.1.length) (hL : sm_L μ h.1.length P.2.2.1 ls A) (hw : ∀ v ∈ rest, sm_wv h.1.length v) (hS : va_S (fun q => base ≤ q) s.heap H locs) (hm : ∀ a, a < n0 → μ a = μ0 a) (hc : cells + F.1.length = cE + h.1.length) (hs : slots + sm_sz F = sE + sm_sz h)
    (kk : sm_nx p l e R s m args below meth c Q P D dA base b L xs μ0 n0 cE sE F (pc + 3) ls (v.toList ++ rest) h1) : W p l e R s m args below meth c H locs cells slots Q (F0 m pc A st0) := by
  have kl := kk.1
  have ks := kk.2.1
  have go : (∀ w, v = some w → sm_wv h1.1.length w) → ∀ (μ' : Nat → Nat) (t : State) (H1 : Heap) (locs1 : List Loc), t.heap = H1 → (∀ a, a < h.1.length → μ' a = μ a) → sm_R D dA base b L xs μ' h1 t.heap → va_S (fun q => base ≤ q) s.heap H1 locs1 → W p l e R s m args below meth c H1 locs1 (cells + mc) (slots + ms) Q (F0 m (pc + 3) A ((v.toList ++ rest).map (sm_v μ'))) := by
    intro hwv μ' t H1 locs1 ht hag hB hS1
    rw [ht] at hB
    refine kk.2.2 (by omega) μ' H1 locs1 (cells + mc) (slots + ms) A hB (hL.mono hle hag) (fun w hw2 => ?_) hS1 (fun a ha => (hag a (by omega)).trans (hm a ha)) (by omega) (by omega)
    rcases List.mem_append.mp hw2 with z | z
    · cases v with
      | none => cases z
      | some u =>
        rcases List.mem_cons.mp z with rfl | z
        · exact hwv _ rfl
        · cases z
    · exact sm_wm hle hw w z
  rcases hvo with rfl | ⟨x, rfl⟩ | ⟨x, rfl⟩ | ⟨x, rfl⟩
  · refine va_callv (a := a) hr hS (fun _ _ z => z) (fun _ z => z) (fun u t H1 locs1 ht hvm hp hB hz hk1 hS1 => ?_)
    have := go (fun w z => by cases z) u t H1 locs1 ht hp hB hS1
    rw [List.map_append, sm_map_ext hp hw] at this
    exact this
  · refine va_calli (a := a) hr hS (fun _ _ z => z) (fun _ z => z) (fun r u t H1 locs1 ht hvm hp hB hz hk1 hS1 => ?_)
    obtain ⟨rfl, hp⟩ := hp
    have := go (fun w z => by cases z; exact sm_wv_i) u t H1 locs1 ht hp hB hS1
    rw [List.map_append, sm_map_ext hp hw] at this
    exact this
  · refine va_calll (a := a) hr hS (fun _ _ z => z) (fun _ z => z) (fun r u t H1 locs1 ht hvm hp hB hz hk1 hS1 => ?_)
    obtain ⟨rfl, hp⟩ := hp
    have := go (fun w z => by cases z; exact sm_wv_l) u t H1 locs1 ht hp hB hS1
    rw [List.map_append, sm_map_ext hp hw] at this
    exact this
  · refine va_callr (a := a) hr hS (fun _ _ z => z) (fun _ z => z) (fun u ra t H1 locs1 ht hvm hp hB hz hk1 hS1 => ?_)
    obtain ⟨rfl, hdl, hB⟩ := hB
    have := go (fun w z => by cases z; exact sm_wv_r hdl) u t H1 locs1 ht hp hB hS1
    rw [List.map_append, sm_map_ext hp hw] at this
    exact this
theorem sm_pre {μ : Nat → Nat} {H : Heap} {locs : List Loc} (C : sm_cx p R s m args meth c P Ts D dA base b L xs cE sE) (hR : sm_R D dA base b L xs μ h H) (hS : va_S (fun q => base ≤ q) s.heap H locs) : ∀ U : State, U.heap = H → s.WarmedH U.vm → sm_B D dA base b L xs μ h U := by
  obtain ⟨hx, hb, hml, hown, hts, hG, hNT, hAO, hK, hX, hbb, hbs, hin, hfr, hlo, hcE, hsE⟩ := C
  intro U hU hW
  subst hU
  refine ⟨Nat.le_trans hbs hS.1, hbb, sm_NT_warm hW hNT, va_AO.moved hW.alike hAO, va_K.moved hW.alike hK, va_X.moved hW.alike (hX.kept (hS.2.1 b (by omega) (by omega))), hR⟩
/-- the numbers of a call, as words -/
theorem sm_cB_P {own : String} {fr lo idx mi na rk' nL q : Nat} (h : sm_cB own fr lo idx mi na rk' nL q = true) : mi < 165 ∧ (Cond.methodLink own idx (sm_P mi).1 ∈ sm_GT ∨ Cond.methodLinkNest own idx (sm_P mi).1 "ObedientDice" ∈ sm_NT) ∧ (sm_P mi).2.2.2.2.2.2.2 = na ∧ sm_rB rk' (sm_P mi).2.2.2.1 = true ∧ (sm_P mi).2.2.1 = nL ∧ (sm_P mi).2.2.2.2.1 + 1 ≤ fr ∧ 8 + ((sm_P mi).2.2.1 + 11) + (sm_P mi).2.2.2.2.2.1 ≤ lo := by
  unfold sm_cB sm_lB at h
  simp only [Bool.and_eq_true, Bool.or_eq_true, decide_eq_true_eq] at h
  obtain ⟨h1, h2, h3, h4, h5, h6, h7⟩ := h
  exact ⟨h1, h2.imp (fun z => List.mem_filter.mpr ⟨List.mem_of_getElem? z, rfl⟩) (fun z => List.mem_filter.mpr ⟨List.mem_of_getElem? z, rfl⟩), h3, h4, h5, h6, by rw [h5]; exact h7⟩
theorem sm_x_static (C : sm_cx p R s m args meth c P Ts D dA base b L xs cE sE) {idx mi na rk' nL q : Nat} (hcB : sm_cB P.1.cls P.2.2.2.2.1 P.2.2.2.2.2.1 idx mi na rk' nL q = true) (hst : (sm_P mi).2.2.2.2.2.2.1 = true) (hd : decode P.2.1 pc = .ok (.invokestatic idx, 3)) (h1 : am_inv (sm_nx p l e R s m args below meth c Q P D dA base b L xs μ0 n0 cE sE F) (fun mi rk' nL as pc ls st h => ∃ v h1, (mi < 165 → (sm_P mi).2.2.1 = nL → sm_call l D dA base b L xs mi as h v h1) ∧ sm_nx p l e R s m args below meth c Q P D dA base b L xs μ0 n0 cE sE F pc ls (v.toList ++ st) h1) False (pc + 3) [mi, na, 1, rk', nL] ls st h) : sm_nx p l e R s m args below meth c Q P D dA base b L xs μ0 n0 cE sE F pc ls st h := by
  have C0 := C
  obtain ⟨hx, hb, hml, hown, hts, hG, hNT, hAO, hK, hX, hbb, hbs, hin, hfr, hlo, hcE, hsE⟩ := C
  have h1 : match am_pop na st [] with
    | some (as, r) => if am_w8 r ≤ 8 ∧ (am_pad as).length ≤ nL then ∃ v h1, (mi < 165 → (sm_P mi).2.2.1 = nL → sm_call l D dA base b L xs mi as h v h1) ∧ sm_nx p l e R s m args below meth c Q P D dA base b L xs μ0 n0 cE sE F (pc + 3) ls (v.toList ++ r) h1 else False
    | none => False := h1
  cases hp : am_pop na st [] with
  | none => rw [hp] at h1; exact h1.elim
  | some w =>
    obtain ⟨as, r⟩ := w
    rw [hp] at h1
    obtain ⟨pq, hq1, hq2, hq3⟩ := sm_pop na st [] as r hp
    rw [List.append_nil] at hq3
    dsimp only at h1
    by_cases h8 : am_w8 r ≤ 8 ∧ (am_pad as).length ≤ nL
    rotate_left
    · rw [if_neg h8] at h1; exact h1.elim
    rw [if_pos h8] at h1
    obtain ⟨v, h1', cc, kk⟩ := h1
    have kl := kk.1
    have ks := kk.2.1
    obtain ⟨hmi, hlk, hna, hrb, hnL, hfr1, hlo1⟩ := sm_cB_P hcB
    obtain ⟨wC, wPl, wIn, wD, wS, wI⟩ := sm_meth hmi
    obtain ⟨c1, c2, c4, c5⟩ := cc hmi hnL
    have hRr : (sm_rm (sm_P mi) h h1').frames + 1 ≤ R.frames ∧ 8 + ((sm_P mi).2.2.1 + 11) + (sm_rm (sm_P mi) h h1').locals ≤ R.locals := ⟨Nat.le_trans hfr1 hfr, Nat.le_trans hlo1 hlo⟩
    have hsr : st = as.reverse ++ r := by rw [hq3, List.reverse_reverse]; exact hq2
    have hal : as.length = (sm_P mi).2.2.2.2.2.2.2 := by rw [hq3, List.length_reverse, hq1, hna]
    refine ⟨by omega, by omega, fun hn μ H locs cells slots A hR hL hw hS hm hc hs => ?_⟩
    have hwas : ∀ w ∈ as, sm_wv h.1.length w := fun w hw2 => hw w (by rw [hsr]; exact List.mem_append_left _ (List.mem_reverse.mpr hw2))
    have hwr : ∀ w ∈ r, sm_wv h.1.length w := fun w hw2 => hw w (by rw [hsr]; exact List.mem_append_right _ hw2)
    have hstk : st.map (sm_v μ) = (as.map (sm_v μ)).reverse ++ r.map (sm_v μ) := by rw [hsr, List.map_append, List.map_reverse]
    have hps : PreS s H (va_Pc (as.map (sm_v μ)) (sm_B D dA base b L xs μ h)) (as.map (sm_v μ)) := ⟨sm_B.blind, fun U hU hW => ⟨rfl, sm_pre C0 hR hS U hU hW⟩⟩
    refine sm_after (a := (as.map (sm_v μ)).toArray) c1 c2 c4 rfl rfl ?_ hn hL hwr hS hm hc hs kk
    rcases hlk with hlk | hlk
    · exact va_runS ⟨hx, hb, hml, hown, hts⟩ (c5 hwas (hnL ▸ h8.2) μ) (va_cwS (sm_P mi).2.2.2.2.2.2.2 hts (sm_GI hG (fun w hw2 => by
        rcases List.mem_append.mp hw2 with z | z
        · simp only [List.mem_cons, List.not_mem_nil, or_false] at z
          rcases z with rfl | rfl | rfl
          · exact hlk
          · exact wS hst
          · exact wIn
        · exact sm_ws_in hmi w z)) rfl rfl rfl wD hRr) hps rfl (by rw [List.length_map]; exact hal) hL.1 hstk (lv_room (by rw [sm_w8]; exact h8.1)) hd ⟨by show cells + (h1'.1.length - h.1.length) ≤ R.cells; omega, by show slots + (sm_sz h1' - sm_sz h) ≤ R.slots; omega⟩
    · exact va_runSN ⟨hx, hb, hml, hown, hts⟩ (c5 hwas (hnL ▸ h8.2) μ) ⟨va_cnB (sm_P mi).2.2.2.2.2.2.2 hts (sm_GI hG (sm_ws_in hmi)) rfl rfl rfl (hNT _ hlk) (hts _ (hG _ wIn)) wD hRr, hts _ (hG _ (wS hst)), trivial⟩ hps rfl (by rw [List.length_map]; exact hal) hL.1 hstk (lv_room (by rw [sm_w8]; exact h8.1)) hd ⟨by show cells + (h1'.1.length - h.1.length) ≤ R.cells; omega, by show slots + (sm_sz h1' - sm_sz h) ≤ R.slots; omega⟩
theorem sm_x_virtual (C : sm_cx p R s m args meth c P Ts D dA base b L xs cE sE) {idx mi na rk' nL rc q : Nat} (hcB : sm_cB P.1.cls P.2.2.2.2.1 P.2.2.2.2.2.1 idx mi na rk' nL q = true) (hrc : (sm_P mi).1.cls = sm_cn rc ∧ rc < 4) (hni : (sm_P mi).1.name ≠ "<init>") (hst : (sm_P mi).2.2.2.2.2.2.1 = false) (hd : decode P.2.1 pc = .ok (.invokevirtual idx, 3)) (h1 : am_inv (sm_nx p l e R s m args below meth c Q P D dA base b L xs μ0 n0 cE sE F) (fun mi rk' nL as pc ls st h => ∃ v h1, (mi < 165 → (sm_P mi).2.2.1 = nL → sm_call l D dA base b L xs mi as h v h1) ∧ sm_nx p l e R s m args below meth c Q P D dA base b L xs μ0 n0 cE sE F pc ls (v.toList ++ st) h1) False (pc + 3) [mi, na, 0, rk', nL, rc] ls st h) : sm_nx p l e R s m args below meth c Q P D dA base b L xs μ0 n0 cE sE F pc ls st h := by
  have C0 := C
  obtain ⟨hx, hb, hml, hown, hts, hG, hNT, hAO, hK, hX, hbb, hbs, hin, hfr, hlo, hcE, hsE⟩ := C
  have h1 : match am_pop na st [] with
    | some (as, .ref d :: r) => if am_kd h d = rc then (if am_w8 r ≤ 8 ∧ (am_pad (.ref d :: as)).length ≤ nL then ∃ v h1, (mi < 165 → (sm_P mi).2.2.1 = nL → sm_call l D dA base b L xs mi (.ref d :: as) h v h1) ∧ sm_nx p l e R s m args below meth c Q P D dA base b L xs μ0 n0 cE sE F (pc + 3) ls (v.toList ++ r) h1 else False) else False
    | _ => False := h1
  split at h1
  rotate_left
  · exact h1.elim
  · rename_i as d r hp
    obtain ⟨pq, hq1, hq2, hq3⟩ := sm_pop na st [] as _ hp
    rw [List.append_nil] at hq3
    by_cases hkd : am_kd h d = rc
    rotate_left
    · rw [if_neg hkd] at h1; exact h1.elim
    rw [if_pos hkd] at h1
    by_cases h8 : am_w8 r ≤ 8 ∧ (am_pad (.ref d :: as)).length ≤ nL
    rotate_left
    · rw [if_neg h8] at h1; exact h1.elim
    rw [if_pos h8] at h1
    obtain ⟨v, h1', cc, kk⟩ := h1
    have kl := kk.1
    have ks := kk.2.1
    obtain ⟨hmi, hlk, hna, hrb, hnL, hfr1, hlo1⟩ := sm_cB_P hcB
    obtain ⟨wC, wPl, wIn, wD, wS, wI⟩ := sm_meth hmi
    obtain ⟨c1, c2, c4, c5⟩ := cc hmi hnL
    have hRr : (sm_rm (sm_P mi) h h1').frames + 1 ≤ R.frames ∧ 8 + ((sm_P mi).2.2.1 + 11) + (sm_rm (sm_P mi) h h1').locals ≤ R.locals := ⟨Nat.le_trans hfr1 hfr, Nat.le_trans hlo1 hlo⟩
    have hsr : st = as.reverse ++ .ref d :: r := by rw [hq3, List.reverse_reverse]; exact hq2
    have hal : as.length = (sm_P mi).2.2.2.2.2.2.2 := by rw [hq3, List.length_reverse, hq1, hna]
    refine ⟨by omega, by omega, fun hn μ H locs cells slots A hR hL hw hS hm hc hs => ?_⟩
    have hwd : sm_wv h.1.length (.ref d) := hw _ (by rw [hsr]; exact List.mem_append_right _ List.mem_cons_self)
    have hwas : ∀ w ∈ Value.ref d :: as, sm_wv h.1.length w := sm_wc hwd fun w hw2 => hw w (by rw [hsr]; exact List.mem_append_left _ (List.mem_reverse.mpr hw2))
    have hwr : ∀ w ∈ r, sm_wv h.1.length w := fun w hw2 => hw w (by rw [hsr]; exact List.mem_append_right _ (List.mem_cons_of_mem _ hw2))
    have hstk : st.map (sm_v μ) = (as.map (sm_v μ)).reverse ++ .ref (μ d) :: r.map (sm_v μ) := by rw [hsr, List.map_append, List.map_reverse]; rfl
    have hfc : cells + (h1'.1.length - h.1.length) ≤ R.cells ∧ slots + (sm_sz h1' - sm_sz h) ≤ R.slots := ⟨by omega, by omega⟩
    refine sm_after (a := (Value.ref (μ d) :: as.map (sm_v μ)).toArray) c1 c2 c4 rfl rfl ?_ hn hL hwr hS hm hc hs kk
    obtain ⟨wI1, wI2⟩ := wI hst
    have wSel := wI2.resolve_left hni
    obtain ⟨⟨d0, d1⟩, hed⟩ := sm_wl_obj (dA := dA) (μ := μ) hR.2.2.2 hkd (Nat.lt_succ_of_lt hrc.2)
    obtain ⟨rr, hrr⟩ : ∃ rr, vwCl[rc]? = some rr := ⟨_, List.getElem?_eq_getElem (by show rc < 4; exact hrc.2)⟩
    obtain ⟨cellB, g1, g2, g3⟩ := va_recv hK hR.1 hrr hed
    have hnm : rr.1 = (sm_P mi).1.cls := (sm_cls hrr).2.1.trans hrc.1.symm
    rw [hnm] at g3
    have hpv : PreV s H (sm_P mi).1.cls (μ d) (va_Pc ((Value.ref d :: as).map (sm_v μ)) (sm_B D dA base b L xs μ h)) (as.map (sm_v μ)) := ⟨sm_B.blind, ⟨cellB, g1, g2, g3⟩, fun U hU hW => ⟨rfl, sm_pre C0 hR hS U hU hW⟩⟩
    rcases hlk with hlk | hlk
    · exact va_runV ⟨hx, hb, hml, hown, hts⟩ (c5 hwas (hnL ▸ h8.2) μ) (cwV (sm_P mi).2.2.2.2.2.2.2 hts (sm_GI hG (fun w hw2 => by
        rcases List.mem_append.mp hw2 with z | z
        · simp only [List.mem_cons, List.not_mem_nil, or_false] at z
          rcases z with rfl | rfl | rfl | rfl
          · exact hlk
          · exact wI1
          · exact wSel
          · exact wIn
        · exact sm_ws_in hmi w z)) rfl rfl rfl ⟨rfl, wD⟩ hRr) hpv rfl (by rw [List.length_map]; exact hal) hL.1 hstk (lv_room (by rw [sm_w8]; exact h8.1)) hd hfc
    · exact va_runVN ⟨hx, hb, hml, hown, hts⟩ (c5 hwas (hnL ▸ h8.2) μ) ⟨va_cnB (sm_P mi).2.2.2.2.2.2.2 hts (sm_GI hG (sm_ws_in hmi)) rfl rfl rfl (hNT _ hlk) (hts _ (hG _ wIn)) wD hRr, hts _ (hG _ wI1), hts _ (hG _ wSel)⟩ hpv rfl (by rw [List.length_map]; exact hal) hL.1 hstk (lv_room (by rw [sm_w8]; exact h8.1)) hd hfc
theorem sm_x_special (C : sm_cx p R s m args meth c P Ts D dA base b L xs cE sE) {idx mi na rk' nL rc q : Nat} (hcB : sm_cB P.1.cls P.2.2.2.2.1 P.2.2.2.2.2.1 idx mi na rk' nL q = true) (hrk : rk' = 0) (hni : (sm_P mi).1.name = "<init>") (hst : (sm_P mi).2.2.2.2.2.2.1 = false) (hd : decode P.2.1 pc = .ok (.invokespecial idx, 3)) (h1 : am_inv (sm_nx p l e R s m args below meth c Q P D dA base b L xs μ0 n0 cE sE F) (fun mi rk' nL as pc ls st h => ∃ v h1, (mi < 165 → (sm_P mi).2.2.1 = nL → sm_call l D dA base b L xs mi as h v h1) ∧ sm_nx p l e R s m args below meth c Q P D dA base b L xs μ0 n0 cE sE F pc ls (v.toList ++ st) h1) False (pc + 3) [mi, na, 0, rk', nL, rc] ls st h) : sm_nx p l e R s m args below meth c Q P D dA base b L xs μ0 n0 cE sE F pc ls st h := by
  have C0 := C
  obtain ⟨hx, hb, hml, hown, hts, hG, hNT, hAO, hK, hX, hbb, hbs, hin, hfr, hlo, hcE, hsE⟩ := C
  have h1 : match am_pop na st [] with
    | some (as, .ref d :: r) => if am_kd h d = rc then (if am_w8 r ≤ 8 ∧ (am_pad (.ref d :: as)).length ≤ nL then ∃ v h1, (mi < 165 → (sm_P mi).2.2.1 = nL → sm_call l D dA base b L xs mi (.ref d :: as) h v h1) ∧ sm_nx p l e R s m args below meth c Q P D dA base b L xs μ0 n0 cE sE F (pc + 3) ls (v.toList ++ r) h1 else False) else False
    | _ => False := h1
  split at h1
  rotate_left
  · exact h1.elim
  · rename_i as d r hp
    obtain ⟨pq, hq1, hq2, hq3⟩ := sm_pop na st [] as _ hp
    rw [List.append_nil] at hq3
    by_cases hkd : am_kd h d = rc
    rotate_left
    · rw [if_neg hkd] at h1; exact h1.elim
    rw [if_pos hkd] at h1
    by_cases h8 : am_w8 r ≤ 8 ∧ (am_pad (.ref d :: as)).length ≤ nL
    rotate_left
    · rw [if_neg h8] at h1; exact h1.elim
    rw [if_pos h8] at h1
    obtain ⟨v, h1', cc, kk⟩ := h1
    have kl := kk.1
    have ks := kk.2.1
    obtain ⟨hmi, hlk, hna, hrb, hnL, hfr1, hlo1⟩ := sm_cB_P hcB
    obtain ⟨wC, wPl, wIn, wD, wS, wI⟩ := sm_meth hmi
    obtain ⟨c1, c2, c4, c5⟩ := cc hmi hnL
    have hRr : (sm_rm (sm_P mi) h h1').frames + 1 ≤ R.frames ∧ 8 + ((sm_P mi).2.2.1 + 11) + (sm_rm (sm_P mi) h h1').locals ≤ R.locals := ⟨Nat.le_trans hfr1 hfr, Nat.le_trans hlo1 hlo⟩
    have hsr : st = as.reverse ++ .ref d :: r := by rw [hq3, List.reverse_reverse]; exact hq2
    have hal : as.length = (sm_P mi).2.2.2.2.2.2.2 := by rw [hq3, List.length_reverse, hq1, hna]
    refine ⟨by omega, by omega, fun hn μ H locs cells slots A hR hL hw hS hm hc hs => ?_⟩
    have hwd : sm_wv h.1.length (.ref d) := hw _ (by rw [hsr]; exact List.mem_append_right _ List.mem_cons_self)
    have hwas : ∀ w ∈ Value.ref d :: as, sm_wv h.1.length w := sm_wc hwd fun w hw2 => hw w (by rw [hsr]; exact List.mem_append_left _ (List.mem_reverse.mpr hw2))
    have hwr : ∀ w ∈ r, sm_wv h.1.length w := fun w hw2 => hw w (by rw [hsr]; exact List.mem_append_right _ (List.mem_cons_of_mem _ hw2))
    have hstk : st.map (sm_v μ) = (as.map (sm_v μ)).reverse ++ .ref (μ d) :: r.map (sm_v μ) := by rw [hsr, List.map_append, List.map_reverse]; rfl
    have hfc : cells + (h1'.1.length - h.1.length) ≤ R.cells ∧ slots + (sm_sz h1' - sm_sz h) ≤ R.slots := ⟨by omega, by omega⟩
    refine sm_after (a := (Value.ref (μ d) :: as.map (sm_v μ)).toArray) c1 c2 c4 rfl rfl ?_ hn hL hwr hS hm hc hs kk
    obtain ⟨wI1, -⟩ := wI hst
    subst hrk
    have hret : (sm_P mi).2.2.2.1 = none := sm_rB_0 hrb
    have hps : PreS s H (va_Pc ((Value.ref d :: as).map (sm_v μ)) (sm_B D dA base b L xs μ h)) (.ref (μ d) :: as.map (sm_v μ)) := ⟨sm_B.blind, fun U hU hW => ⟨rfl, sm_pre C0 hR hS U hU hW⟩⟩
    have hwsn : sm_ws (sm_P mi) = Cond.code (sm_P mi).1 (sm_P mi).2.1 (sm_P mi).2.2.1 none :: sm_GT := by unfold sm_ws; rw [hret]
    rcases hlk with hlk | hlk
    · exact va_runI ⟨hx, hb, hml, hown, hts⟩ (c5 hwas (hnL ▸ h8.2) μ) (cwI (sm_P mi).2.2.2.2.2.2.2 hts (sm_GI hG (sm_ws_in hmi)) hwsn rfl rfl (hts _ (hG _ wIn)) (hts _ (hG _ hlk)) (hts _ (hG _ wI1)) hni wD hRr) hps rfl (by rw [List.length_map]; exact hal) hL.1 hstk (lv_room (by rw [sm_w8]; exact h8.1)) hd hfc
    · exact va_runIN ⟨hx, hb, hml, hown, hts⟩ (c5 hwas (hnL ▸ h8.2) μ) ⟨va_cnB (sm_P mi).2.2.2.2.2.2.2 hts (sm_GI hG (sm_ws_in hmi)) hwsn rfl rfl (hNT _ hlk) (hts _ (hG _ wIn)) wD hRr, hni, hts _ (hG _ wI1)⟩ hps rfl (by rw [List.length_map]; exact hal) hL.1 hstk (lv_room (by rw [sm_w8]; exact h8.1)) hd hfc
end calls
