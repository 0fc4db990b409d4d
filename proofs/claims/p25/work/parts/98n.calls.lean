/-! ===== the calls, with two objects in the memory ===== -/
theorem i_hl1 {x : Int32} {l : List Value} (h : ∀ v ∈ l, (∃ x, v = .int x) ∨ v = am_ph) : ∀ v ∈ Value.int x :: l, (∃ x, v = .int x) ∨ v = am_ph := List.forall_mem_cons.2 ⟨Or.inl ⟨x, rfl⟩, h⟩
theorem i_hlp {l : List Value} (h : ∀ v ∈ l, (∃ x, v = .int x) ∨ v = am_ph) : ∀ v ∈ am_ph :: l, (∃ x, v = .int x) ∨ v = am_ph := List.forall_mem_cons.2 ⟨Or.inr rfl, h⟩
theorem i_hl0 : ∀ v ∈ ([] : List Value), (∃ x, v = .int x) ∨ v = am_ph := fun v h => by cases h
section calls
variable {L : Nat} {xs : Nat → Int32} {n : Nat} {H : AH} {A B A' B' : QA}
theorem sz_app {h h1 : AH} {l : List (Nat × Nat)} (e : h1.1 = h.1 ++ l) : sm_sz h1 = sm_sz h + (l.map fun t => t.2).sum := by
  unfold sm_sz
  rw [e, List.map_append, List.sum_append]
theorem lw.go (J : lw L xs n H A B) {H1 : AH} {m : Nat} (T : tw H1 1 20 A' B') (e0 : am_I H1 0 = am_I H 0) {l : List (Nat × Nat)} (el : H1.1 = H.1 ++ l) (hl : l.length ≤ 4 * m ∧ (l.map fun t => t.2).sum ≤ 29 * m) : lw L xs (n + m) H1 A' B' := by
  obtain ⟨T0, ⟨j1, j2⟩, j3, j4⟩ := J
  have hz := sz_app el
  refine ⟨T, ⟨?_, by rw [e0]; exact j2⟩, by rw [el, List.length_append]; omega, by omega⟩
  have k9 := T0.1
  have h0 : 0 < H.1.length := by
    rcases Nat.eq_zero_or_pos H.1.length with z | z
    · unfold am_kd at k9
      rw [List.getD_eq_getElem?_getD, List.getElem?_eq_none (by omega)] at k9
      exact absurd k9 (by decide)
    · exact z
  rw [← j1]
  unfold am_ln
  rw [el, List.getD_eq_getElem?_getD, List.getElem?_append_left h0, List.getD_eq_getElem?_getD]
theorem cF.LP {h h1 : AH} {P : Nat → Prop} (f : cF h h1 P) : ∃ l, h1.1 = h.1 ++ l ∧ (l.length ≤ 4 * 1 ∧ (l.map fun t => t.2).sum ≤ 29 * 1) := by
  obtain ⟨⟨l, e, d⟩, -⟩ := f
  refine ⟨l, e, ?_⟩
  rcases d with rfl | rfl
  · exact ⟨by simp, by simp⟩
  · exact ⟨by simp, by simp⟩
theorem xF.LP {h h1 : AH} (f : xF h h1) : ∃ l, h1.1 = h.1 ++ l ∧ (l.length ≤ 4 * 0 ∧ (l.map fun t => t.2).sum ≤ 29 * 0) := ⟨[], by rw [f.1]; simp, by simp, by simp⟩
/-- a call of the first that changes it, of the second; a call that reads -/
theorem lw.co (J : lw L xs n H A B) {mi : Nat} {ls : List Value} {v : Int32} (hls : ∀ v ∈ ls, (∃ x, v = .int x) ∨ v = am_ph)
    (hc : ∀ h, cI h A → xE h → allwf A → ∃ h1, am_ev mi 0 (.ref 1 :: ls) [] h = some (some (.int v), h1) ∧ cI h1 A' ∧ xE h1 ∧ cF h h1 cM) (W' : allwf A') : ∃ H1, am_ev mi 0 (.ref 1 :: ls) [] H = some (some (.int v), H1) ∧ lw L xs (n + 1) H1 A' B := by
  obtain ⟨H1, e, T, e0, l, el, hl⟩ := J.1.call hls (fun h I C W => by
    obtain ⟨h1, k1, k2, k3, k4⟩ := hc h I C W
    exact ⟨h1, k1, k2, k3, k4.LP⟩) W'
  exact ⟨H1, e, J.go T e0 el hl⟩
theorem lw.cp (J : lw L xs n H A B) {mi : Nat} {ls : List Value} {v : Int32} (hls : ∀ v ∈ ls, (∃ x, v = .int x) ∨ v = am_ph)
    (hc : ∀ h, cI h B → xE h → allwf B → ∃ h1, am_ev mi 0 (.ref 1 :: ls) [] h = some (some (.int v), h1) ∧ cI h1 B' ∧ xE h1 ∧ cF h h1 cM) (W' : allwf B') : ∃ H1, am_ev mi 0 (.ref 20 :: ls) [] H = some (some (.int v), H1) ∧ lw L xs (n + 1) H1 A B' := by
  obtain ⟨H1, e, T, e0, l, el, hl⟩ := J.1.swap.call hls (fun h I C W => by
    obtain ⟨h1, k1, k2, k3, k4⟩ := hc h I C W
    exact ⟨h1, k1, k2, k3, k4.LP⟩) W'
  exact ⟨H1, e, J.go T.swap e0 el hl⟩
theorem lw.ro (J : lw L xs n H A B) {mi : Nat} {ls : List Value} {v : Int32} (hls : ∀ v ∈ ls, (∃ x, v = .int x) ∨ v = am_ph)
    (hc : ∀ h, cI h A → xE h → allwf A → ∃ h1, am_ev mi 0 (.ref 1 :: ls) [] h = some (some (.int v), h1) ∧ cI h1 A ∧ xE h1 ∧ xF h h1) : ∃ H1, am_ev mi 0 (.ref 1 :: ls) [] H = some (some (.int v), H1) ∧ lw L xs n H1 A B := by
  have W : allwf A := by obtain ⟨-, h, g, μ, ν, V, -, -⟩ := J.1; exact V.2.2.2.2.2
  obtain ⟨H1, e, T, e0, l, el, hl⟩ := J.1.call hls (fun h I C W => by
    obtain ⟨h1, k1, k2, k3, k4⟩ := hc h I C W
    exact ⟨h1, k1, k2, k3, k4.LP⟩) W
  exact ⟨H1, e, J.go T e0 el hl⟩
theorem lw.rp (J : lw L xs n H A B) {mi : Nat} {ls : List Value} {v : Int32} (hls : ∀ v ∈ ls, (∃ x, v = .int x) ∨ v = am_ph)
    (hc : ∀ h, cI h B → xE h → allwf B → ∃ h1, am_ev mi 0 (.ref 1 :: ls) [] h = some (some (.int v), h1) ∧ cI h1 B ∧ xE h1 ∧ xF h h1) : ∃ H1, am_ev mi 0 (.ref 20 :: ls) [] H = some (some (.int v), H1) ∧ lw L xs n H1 A B := by
  have W : allwf B := by obtain ⟨-, h, g, μ, ν, -, V, -⟩ := J.1; exact V.2.2.2.2.2
  obtain ⟨H1, e, T, e0, l, el, hl⟩ := J.1.swap.call hls (fun h I C W => by
    obtain ⟨h1, k1, k2, k3, k4⟩ := hc h I C W
    exact ⟨h1, k1, k2, k3, k4.LP⟩) W
  exact ⟨H1, e, J.go T.swap e0 el hl⟩
theorem lw.wo (J : lw L xs n H A B) : allwf A := by obtain ⟨-, h, g, μ, ν, V, -, -⟩ := J.1; exact V.2.2.2.2.2
theorem lw.wp (J : lw L xs n H A B) : allwf B := by obtain ⟨-, h, g, μ, ν, -, V, -⟩ := J.1; exact V.2.2.2.2.2
theorem lw.zo (J : lw L xs n H A B) : z_list A.1.1 (q_g A.1) (q_N A.1, q_E A.1) := by
  obtain ⟨-, h, g, μ, ν, V, -, -⟩ := J.1
  obtain ⟨h1, b, τ, -, -, -, -, W⟩ := c_work V.2.2.2.1 V.2.2.2.2.1 V.2.2.2.2.2.1
  exact W.2.1
theorem lw.zp (J : lw L xs n H A B) : z_list B.1.1 (q_g B.1) (q_N B.1, q_E B.1) := by
  obtain ⟨-, h, g, μ, ν, -, V, -⟩ := J.1
  obtain ⟨h1, b, τ, -, -, -, -, W⟩ := c_work V.2.2.2.1 V.2.2.2.2.1 V.2.2.2.2.2.1
  exact W.2.1
theorem lw.k1 (J : lw L xs n H A B) : am_kd H 1 = 3 := by
  obtain ⟨-, h, g, μ, ν, V, -, -⟩ := J.1
  rw [← V.2.1.2, V.1.kd]
  exact V.2.2.2.1.1.k1
theorem lw.k20 (J : lw L xs n H A B) : am_kd H 20 = 3 := by
  obtain ⟨-, h, g, μ, ν, -, V, -⟩ := J.1
  rw [← V.2.1.2, V.1.kd]
  exact V.2.2.2.1.1.k1
theorem lo_count (J : lw L xs n H A B) (x : Int32) : ∃ H1, am_ev 71 0 [.ref 1, .int x] [] H = some (some (.int (f_count A x)), H1) ∧ lw L xs n H1 A B := J.ro (i_hl1 i_hl0) (fun h I C W => c_count I C W.1 x)
theorem lo_best (J : lw L xs n H A B) (x y : Int32) : ∃ H1, am_ev 74 0 [.ref 1, .int x, .int y, am_ph, am_ph] [] H = some (some (.int (f_best A x y)), H1) ∧ lw L xs n H1 A B := J.ro (i_hl1 (i_hl1 (i_hlp (i_hlp i_hl0)))) (fun h I C W => c_best I C W.1 x y)
theorem lo_cell (J : lw L xs n H A B) (r q y : Int32) : ∃ H1, am_ev 69 0 [.ref 1, .int r, .int q, .int y, am_ph] [] H = some (some (.int (f_cell A r q y)), H1) ∧ lw L xs n H1 A B := J.ro (i_hl1 (i_hl1 (i_hl1 (i_hlp i_hl0)))) (fun h I C W => c_cell I C W.1 r q y)
theorem lo_never (J : lw L xs n H A B) (x : Int32) : ∃ H1, am_ev 75 0 [.ref 1, .int x, am_ph, am_ph, am_ph] [] H = some (some (.int (f_never A x)), H1) ∧ lw L xs n H1 A B := J.ro (i_hl1 (i_hlp (i_hlp (i_hlp i_hl0)))) (fun h I C W => c_never I C W.1 x)
theorem lo_extreme (J : lw L xs n H A B) (x y : Int32) : ∃ H1, am_ev 73 0 [.ref 1, .int x, .int y, am_ph] [] H = some (some (.int (f_extreme A x y)), H1) ∧ lw L xs n H1 A B := J.ro (i_hl1 (i_hl1 (i_hlp i_hl0))) (fun h I C W => c_extreme I C W.1 x y)
theorem lo_worth (J : lw L xs n H A B) (x : Int32) : ∃ H1, am_ev 72 0 [.ref 1, .int x] [] H = some (some (.int (f_worth A x)), H1) ∧ lw L xs n H1 A B := J.ro (i_hl1 i_hl0) (fun h I C W => ⟨h, c_worth I W.1 x, I, C, xF.rf⟩)
theorem lo_inequality (J : lw L xs n H A B) (x y : Int32) : ∃ H1, am_ev 70 0 [.ref 1, .int x, .int y] [] H = some (some (.int (f_inequality A x y)), H1) ∧ lw L xs n H1 A B := J.ro (i_hl1 (i_hl1 i_hl0)) (fun h I C W => ⟨h, c_inequality I x y, I, C, xF.rf⟩)
theorem lo_begin (J : lw L xs n H A B) (x : Int32) : ∃ H1, am_ev 61 0 [.ref 1, .int x, am_ph] [] H = some (some (.int (f_begin A x)), H1) ∧ lw L xs (n + 1) H1 (g_begin A x) B := J.co (i_hl1 (i_hlp i_hl0)) (fun h I C W => by
  obtain ⟨h1, e, I1, f⟩ := c_begin I x
  exact ⟨h1, e, I1, C.same (f.sm I.1), f.wk cN.M⟩) (allwf_begin J.wo x)
theorem lo_points (J : lw L xs n H A B) (p r q v : Int32) : ∃ H1, am_ev 62 0 [.ref 1, .int p, .int r, .int q, .int v, am_ph, am_ph] [] H = some (some (.int (f_points A p r q v)), H1) ∧ lw L xs (n + 1) H1 (g_points A p r q v) B := J.co (i_hl1 (i_hl1 (i_hl1 (i_hl1 (i_hlp (i_hlp i_hl0)))))) (fun h I C W => by
  obtain ⟨h1, e, I1, f⟩ := c_points I p r q v
  exact ⟨h1, e, I1, C.same (f.sm I.1), f.wk cN.M⟩) (allwf_points J.wo p r q v)
theorem lo_weigh (J : lw L xs n H A B) (r q v : Int32) : ∃ H1, am_ev 63 0 [.ref 1, .int r, .int q, .int v, am_ph, am_ph] [] H = some (some (.int (f_weigh A r q v)), H1) ∧ lw L xs (n + 1) H1 (g_weigh A r q v) B := J.co (i_hl1 (i_hl1 (i_hl1 (i_hlp (i_hlp i_hl0))))) (fun h I C W => by
  obtain ⟨h1, e, I1, f⟩ := c_weigh I W.1 r q v
  exact ⟨h1, e, I1, C.same (f.sm I.1), f.wk cN.M⟩) (allwf_weigh J.wo r q v)
theorem lo_forget (J : lw L xs n H A B) (x : Int32) : ∃ H1, am_ev 67 0 [.ref 1, .int x, am_ph] [] H = some (some (.int (f_forget A x)), H1) ∧ lw L xs (n + 1) H1 (g_forget A x) B := J.co (i_hl1 (i_hlp i_hl0)) (fun h I C W => by
  obtain ⟨h1, e, I1, f⟩ := c_forget I W.1 x
  exact ⟨h1, e, I1, C.same (f.sm I.1), f.wk cN.M⟩) (allwf_forget J.wo x)
theorem lo_roll (J : lw L xs n H A B) (x : Int32) : ∃ H1, am_ev 66 0 [.ref 1, .int x, am_ph, am_ph] [] H = some (some (.int (f_roll A x)), H1) ∧ lw L xs (n + 1) H1 (g_roll A x) B := J.co (i_hl1 (i_hlp (i_hlp i_hl0))) (fun h I C W => by
  obtain ⟨h1, e, I1, f⟩ := c_roll I W.1 x
  exact ⟨h1, e, I1, C.same (f.sm I.1), f.wk cN.M⟩) (allwf_roll J.wo x)
theorem lo_undo (J : lw L xs n H A B)  : ∃ H1, am_ev 80 0 [.ref 1, am_ph] [] H = some (some (.int (f_undo A )), H1) ∧ lw L xs (n + 1) H1 (g_undo A ) B := J.co (i_hlp i_hl0) (fun h I C W => by
  obtain ⟨h1, e, I1, f⟩ := c_undo I 
  exact ⟨h1, e, I1, C.same (f.sm I.1), f.wk cN.M⟩) (allwf_undo J.wo )
theorem lo_take (J : lw L xs n H A B) (x : Int32) : ∃ H1, am_ev 64 0 [.ref 1, .int x, am_ph] [] H = some (some (.int (f_take A x)), H1) ∧ lw L xs (n + 1) H1 (g_take A x) B := J.co (i_hl1 (i_hlp i_hl0)) (fun h I C W => c_take I C W.1 x) (allwf_take J.wo J.zo x)
theorem lo_mix (J : lw L xs n H A B) (m x y : Int32) : ∃ H1, am_ev 65 0 [.ref 1, .int m, .int x, .int y, am_ph] [] H = some (some (.int (f_mix A m x y)), H1) ∧ lw L xs (n + 1) H1 (g_mix A m x y) B := J.co (i_hl1 (i_hl1 (i_hl1 (i_hlp i_hl0)))) (fun h I C W => c_mix I C W.1 m x y) (allwf_mix J.wo J.zo m x y)
theorem lp_count (J : lw L xs n H A B) (x : Int32) : ∃ H1, am_ev 71 0 [.ref 20, .int x] [] H = some (some (.int (f_count B x)), H1) ∧ lw L xs n H1 A B := J.rp (i_hl1 i_hl0) (fun h I C W => c_count I C W.1 x)
theorem lp_best (J : lw L xs n H A B) (x y : Int32) : ∃ H1, am_ev 74 0 [.ref 20, .int x, .int y, am_ph, am_ph] [] H = some (some (.int (f_best B x y)), H1) ∧ lw L xs n H1 A B := J.rp (i_hl1 (i_hl1 (i_hlp (i_hlp i_hl0)))) (fun h I C W => c_best I C W.1 x y)
theorem lp_cell (J : lw L xs n H A B) (r q y : Int32) : ∃ H1, am_ev 69 0 [.ref 20, .int r, .int q, .int y, am_ph] [] H = some (some (.int (f_cell B r q y)), H1) ∧ lw L xs n H1 A B := J.rp (i_hl1 (i_hl1 (i_hl1 (i_hlp i_hl0)))) (fun h I C W => c_cell I C W.1 r q y)
theorem lp_never (J : lw L xs n H A B) (x : Int32) : ∃ H1, am_ev 75 0 [.ref 20, .int x, am_ph, am_ph, am_ph] [] H = some (some (.int (f_never B x)), H1) ∧ lw L xs n H1 A B := J.rp (i_hl1 (i_hlp (i_hlp (i_hlp i_hl0)))) (fun h I C W => c_never I C W.1 x)
theorem lp_extreme (J : lw L xs n H A B) (x y : Int32) : ∃ H1, am_ev 73 0 [.ref 20, .int x, .int y, am_ph] [] H = some (some (.int (f_extreme B x y)), H1) ∧ lw L xs n H1 A B := J.rp (i_hl1 (i_hl1 (i_hlp i_hl0))) (fun h I C W => c_extreme I C W.1 x y)
theorem lp_worth (J : lw L xs n H A B) (x : Int32) : ∃ H1, am_ev 72 0 [.ref 20, .int x] [] H = some (some (.int (f_worth B x)), H1) ∧ lw L xs n H1 A B := J.rp (i_hl1 i_hl0) (fun h I C W => ⟨h, c_worth I W.1 x, I, C, xF.rf⟩)
theorem lp_inequality (J : lw L xs n H A B) (x y : Int32) : ∃ H1, am_ev 70 0 [.ref 20, .int x, .int y] [] H = some (some (.int (f_inequality B x y)), H1) ∧ lw L xs n H1 A B := J.rp (i_hl1 (i_hl1 i_hl0)) (fun h I C W => ⟨h, c_inequality I x y, I, C, xF.rf⟩)
theorem lp_begin (J : lw L xs n H A B) (x : Int32) : ∃ H1, am_ev 61 0 [.ref 20, .int x, am_ph] [] H = some (some (.int (f_begin B x)), H1) ∧ lw L xs (n + 1) H1 A (g_begin B x) := J.cp (i_hl1 (i_hlp i_hl0)) (fun h I C W => by
  obtain ⟨h1, e, I1, f⟩ := c_begin I x
  exact ⟨h1, e, I1, C.same (f.sm I.1), f.wk cN.M⟩) (allwf_begin J.wp x)
theorem lp_points (J : lw L xs n H A B) (p r q v : Int32) : ∃ H1, am_ev 62 0 [.ref 20, .int p, .int r, .int q, .int v, am_ph, am_ph] [] H = some (some (.int (f_points B p r q v)), H1) ∧ lw L xs (n + 1) H1 A (g_points B p r q v) := J.cp (i_hl1 (i_hl1 (i_hl1 (i_hl1 (i_hlp (i_hlp i_hl0)))))) (fun h I C W => by
  obtain ⟨h1, e, I1, f⟩ := c_points I p r q v
  exact ⟨h1, e, I1, C.same (f.sm I.1), f.wk cN.M⟩) (allwf_points J.wp p r q v)
theorem lp_weigh (J : lw L xs n H A B) (r q v : Int32) : ∃ H1, am_ev 63 0 [.ref 20, .int r, .int q, .int v, am_ph, am_ph] [] H = some (some (.int (f_weigh B r q v)), H1) ∧ lw L xs (n + 1) H1 A (g_weigh B r q v) := J.cp (i_hl1 (i_hl1 (i_hl1 (i_hlp (i_hlp i_hl0))))) (fun h I C W => by
  obtain ⟨h1, e, I1, f⟩ := c_weigh I W.1 r q v
  exact ⟨h1, e, I1, C.same (f.sm I.1), f.wk cN.M⟩) (allwf_weigh J.wp r q v)
end calls
/-! what the law works out for itself -/
def ups (x : Int32) (m : Nat) : Nat := (x &&& (2147483647 : Int32)).toInt.toNat % m
theorem ups_nn (x : Int32) : 0 ≤ (x &&& (2147483647 : Int32)).toInt := by
  have h : (x &&& (2147483647 : Int32)).toBitVec.msb = false := by
    rw [Int32.toBitVec_and, BitVec.msb_and]
    have : (2147483647 : Int32).toBitVec.msb = false := by decide
    rw [this, Bool.and_false]
  rw [BitVec.msb_eq_toInt] at h
  have : ¬ (x &&& (2147483647 : Int32)).toBitVec.toInt < 0 := by simpa using h
  show 0 ≤ (x &&& (2147483647 : Int32)).toBitVec.toInt
  omega
theorem l_up {H : AH} (x : Int32) {m : Nat} (h0 : 0 < m) (hm : m < 2147483648) : am_ev 96 0 [.int x, .int (nI m)] [] H = some (some (.int (nI (ups x m))), H) := by
  obtain ⟨t, e, et, ht⟩ := q_nI (ups_nn x)
  rw [am_b96_0, if_neg (by rw [← nI_0, nI_eq hm (by omega)]; omega), e, pk_rem ht h0 hm]
  unfold ups
  rw [← et]
  rfl
theorem ups_lt (x : Int32) {m : Nat} (h0 : 0 < m) : ups x m < m := Nat.mod_lt _ h0
theorem w_frow : ∀ y, y < 12 → ∀ a, a < 2 → (if (nI y - nI y / (2 : Int32) * (2 : Int32)) = 0 then nI a else (1 : Int32) - nI a) = nI (w_r y a) := by decide +kernel
theorem w_fcol2 : ∀ y, y < 12 → ∀ b, b < 2 → (if nI y < (6 : Int32) then (nI b + (nI y / (2 : Int32))) - (nI b + (nI y / (2 : Int32))) / nI 2 * nI 2 else (nI 2 - (1 : Int32)) - ((nI b + (nI y / (2 : Int32))) - (nI b + (nI y / (2 : Int32))) / nI 2 * nI 2)) = nI (w_c y 2 b) := by decide +kernel
theorem w_fcol3 : ∀ y, y < 12 → ∀ b, b < 3 → (if nI y < (6 : Int32) then (nI b + (nI y / (2 : Int32))) - (nI b + (nI y / (2 : Int32))) / nI 3 * nI 3 else (nI 3 - (1 : Int32)) - ((nI b + (nI y / (2 : Int32))) - (nI b + (nI y / (2 : Int32))) / nI 3 * nI 3)) = nI (w_c y 3 b) := by decide +kernel
theorem l_row {H : AH} {y a : Nat} (hy : y < 12) (ha : a < 2) : am_ev 97 0 [.int (nI y), .int (nI a)] [] H = some (some (.int (nI (w_r y a))), H) := by
  rw [am_b97_0, ← w_frow y hy a ha]
  split <;> rfl
theorem l_col {H : AH} {y c b : Nat} (hy : y < 12) (h3 : c = 2 ∨ c = 3) (hb : b < c) : am_ev 98 0 [.int (nI y), .int (nI c), .int (nI b), am_ph] [] H = some (some (.int (nI (w_c y c b))), H) := by
  rw [am_b98_0]
  rcases h3 with rfl | rfl
  · rw [if_neg (by decide), ← w_fcol2 y hy b hb]
    split <;> rfl
  · rw [if_neg (by decide), ← w_fcol3 y hy b hb]
    split <;> rfl
theorem l_cell {L : Nat} {xs : Nat → Int32} {n : Nat} {H : AH} {A B : QA} (J : lw L xs n H A B) (hL : L ≤ 260) {k : Nat} (hk : k < 100) : ∃ v : Int32, ∀ {L' n' : Nat} {H' : AH} {A' B' : QA}, L' = L → lw L' xs n' H' A' B' → am_ev 95 0 [.ref 0, .int (nI k)] [] H' = some (some (.int v), H') := by
  refine ⟨if k < L then xs k else (625341585 : Int32) * (nI k + (677 : Int32)), fun {L' n' H' A' B'} e J' => ?_⟩
  subst e
  have k9 := J'.1.1
  have kl := J'.2.1.1
  have hL : L' ≤ 260 := hL
  rw [am_b95_0, k9, kl, if_pos (by omega), show Int32.ofNat L' = nI L' from rfl]
  by_cases h : k < L'
  · rw [if_pos (by rw [x_lt (by omega) (by omega)]; exact h), if_pos (by rw [x_cl (by omega)]; exact ⟨Or.inr rfl, fun z => by
      rcases z with z | z
      · exact nI_pos (by omega) z
      · omega⟩), if_pos h, x_cl (by omega), J'.2.1.2]
  · rw [if_neg (by rw [x_lt (by omega) (by omega)]; exact h), if_neg h]
