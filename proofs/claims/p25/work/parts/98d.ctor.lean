/-! ===== what is laid at the beginning ===== -/
/-- rows known while all is laid: those of h below 6 but 1 as they were, the others with no ints and with the references T -/
def ck (h M : AH) (l : List (Nat × Nat)) (T : Nat → Nat → Option Nat) : Prop := M.1 = l ∧ (∀ b, b < 6 → b ≠ 1 → am_I M b = am_I h b ∧ am_R M b = am_R h b) ∧ ∀ b, b < l.length → b = 1 ∨ 6 ≤ b → am_I M b = (fun _ => 0) ∧ am_R M b = T b
/-- an array laid and a field set to it -/
def ckT (T : Nat → Nat → Option Nat) (n a f : Nat) : Nat → Nat → Option Nat := am_ud (am_ud T n (fun _ => none)) a (am_ud (am_ud T n (fun _ => none) a) f (some n))
section ctor
variable {h M : AH} {l : List (Nat × Nat)} {T : Nat → Nat → Option Nat}
theorem am_nw_I {M : AH} {k n : Nat} : am_I (am_nw M k n) = am_ud (am_I M) M.1.length (fun _ => 0) := rfl
theorem am_nw_R {M : AH} {k n : Nat} : am_R (am_nw M k n) = am_ud (am_R M) M.1.length (fun _ => none) := rfl
theorem am_sR_I' {M : AH} {a f : Nat} {v : Option Nat} : am_I (am_sR M a f v) = am_I M := rfl
theorem am_sR_R' {M : AH} {a f : Nat} {v : Option Nat} : am_R (am_sR M a f v) = am_ud (am_R M) a (am_ud (am_R M a) f v) := rfl
theorem ck.kd (s : ck h M l T) {a k : Nat} (e : (l.getD a (99, 0)).1 = k) : am_kd M a = k := by unfold am_kd; rw [s.1]; exact e
theorem ck.ln (s : ck h M l T) {a k : Nat} (e : (l.getD a (99, 0)).2 = k) : am_ln M a = k := by unfold am_ln; rw [s.1]; exact e
theorem ck.len (s : ck h M l T) : M.1.length = l.length := by rw [s.1]
theorem ck.I (s : ck h M l T) {a : Nat} (ha : a < l.length) (h6 : a = 1 ∨ 6 ≤ a) (k : Nat) : am_I M a k = 0 := by rw [(s.2.2 a ha h6).1]
theorem ck.R (s : ck h M l T) {a : Nat} (ha : a < l.length) (h6 : a = 1 ∨ 6 ≤ a) (k : Nat) : am_R M a k = T a k := by rw [(s.2.2 a ha h6).2]
theorem ck.nw (s : ck h M l T) (h6 : 6 ≤ l.length) (k n : Nat) : ck h (am_nw M k n) (l ++ [(k, n)]) (am_ud T l.length (fun _ => none)) := by
  refine ⟨by show M.1 ++ _ = _; rw [s.1], fun b hb b1 => ?_, fun b hb b1 => ?_⟩
  · rw [am_nw_I, am_nw_R, s.len, am_ud_ne (by omega), am_ud_ne (by omega)]
    exact s.2.1 b hb b1
  · rw [am_nw_I, am_nw_R, s.len]
    by_cases e : b = l.length
    · rw [e, am_ud_eq, am_ud_eq, am_ud_eq]
      exact ⟨rfl, rfl⟩
    · rw [am_ud_ne e, am_ud_ne e, am_ud_ne e]
      exact s.2.2 b (by simp at hb; omega) b1
theorem ck.sR (s : ck h M l T) {a : Nat} (ha : a < l.length) (h6 : a = 1 ∨ 6 ≤ a) (f : Nat) (v : Option Nat) : ck h (am_sR M a f v) l (am_ud T a (am_ud (T a) f v)) := by
  refine ⟨s.1, fun b hb b1 => ?_, fun b hb b1 => ?_⟩
  · rw [am_sR_I', am_sR_R', am_ud_ne (by omega)]
    exact s.2.1 b hb b1
  · rw [am_sR_I', am_sR_R']
    by_cases e : b = a
    · rw [e, am_ud_eq, am_ud_eq, (s.2.2 a ha h6).2]
      exact ⟨(s.2.2 a ha h6).1, rfl⟩
    · rw [am_ud_ne e, am_ud_ne e]
      exact s.2.2 b hb b1
theorem am_ud_zero {k : Nat} : am_ud (fun _ : Nat => (0 : Int32)) k 0 = fun _ => 0 := by
  funext j
  by_cases e : j = k
  · rw [e, am_ud_eq]
  · rw [am_ud_ne e]
theorem ck.sI (s : ck h M l T) {a : Nat} (ha : a < l.length) (h6 : a = 1 ∨ 6 ≤ a) (f : Nat) : ck h (am_sI M a f 0) l T := by
  refine ⟨s.1, fun b hb b1 => ⟨?_, (s.2.1 b hb b1).2⟩, fun b hb b1 => ⟨?_, (s.2.2 b hb b1).2⟩⟩
  · rw [am_sI_ne (by omega)]
    exact (s.2.1 b hb b1).1
  · by_cases e : b = a
    · rw [e, am_sI_I, (s.2.2 a ha h6).1, am_ud_zero]
    · rw [am_sI_ne e]
      exact (s.2.2 b hb b1).1
/-- an array, laid and set -/
theorem ck.al (s : ck h M l T) (hl : 6 ≤ l.length) {a : Nat} (ha : a < l.length) (h6 : a = 1 ∨ 6 ≤ a) (k n f : Nat) : ck h (am_sR (am_nw M k n) a f (some M.1.length)) (l ++ [(k, n)]) (ckT T l.length a f) := by
  have := (s.nw hl k n).sR (a := a) (by simp; omega) h6 f (some M.1.length)
  rw [s.len] at this ⊢
  exact this
theorem ck.kdn (s : ck h M l T) {a d : Nat} (ha : a < l.length) (e : (l.getD a (99, 0)).1 = d) (k n : Nat) : am_kd (am_nw M k n) a = d := by
  rw [(t_kd_lt (h := M) (l := [(k, n)]) rfl (by rw [s.len]; exact ha)).1]
  exact s.kd e
theorem ck.one (s : ck h M l T) (hl : 6 ≤ l.length) {a d : Nat} (ha : a < l.length) (h6 : a = 1 ∨ 6 ≤ a) (e : (l.getD a (99, 0)).1 = d) (k n f : Nat) (X : AH → AR) : ∃ M', (let h1 := am_nw M k n; (if am_kd h1 a = d then (let h2 := am_sR h1 a f (some M.1.length); X h2) else none)) = X M' ∧ ck h M' (l ++ [(k, n)]) (ckT T l.length a f) := by
  refine ⟨am_sR (am_nw M k n) a f (some M.1.length), ?_, s.al hl ha h6 k n f⟩
  show (if am_kd (am_nw M k n) a = d then X (am_sR (am_nw M k n) a f (some M.1.length)) else none) = _
  rw [if_pos (s.kdn ha e k n)]
theorem ck.two (s : ck h M l T) (hl : 6 ≤ l.length) {a d : Nat} (ha : a < l.length) (h6 : a = 1 ∨ 6 ≤ a) (e : (l.getD a (99, 0)).1 = d) (k n k' n' f f' : Nat) (X : AH → AR) : ∃ M', (let h1 := am_nw M k n; (if am_kd h1 a = d then (let h2 := am_sR h1 a f (some M.1.length); (let h3 := am_nw h2 k' n'; (if am_kd h3 a = d then (let h4 := am_sR h3 a f' (some h2.1.length); X h4) else none))) else none)) = X M' ∧ ck h M' (l ++ [(k, n)] ++ [(k', n')]) (ckT (ckT T l.length a f) (l.length + 1) a f') := by
  have s2 := s.al hl ha h6 k n f
  have eg : ((l ++ [(k, n)]).getD a (99, 0)).1 = d := by
    rw [← e]
    simp [List.getD_eq_getElem?_getD, List.getElem?_append_left ha]
  obtain ⟨M', e', c'⟩ := s2.one (by simp; omega) (a := a) (d := d) (by simp; omega) h6 eg k' n' f' X
  refine ⟨M', ?_, by simpa using c'⟩
  rw [← e']
  show (if am_kd (am_nw M k n) a = d then _ else none) = _
  rw [if_pos (s.kdn ha e k n)]
end ctor
theorem n_lt {a b : Nat} (e : Nat.ble (a + 1) b = true) : a < b := Nat.le_of_ble_eq_true e
theorem n_le {a b : Nat} (e : Nat.ble a b = true) : a ≤ b := Nat.le_of_ble_eq_true e
theorem ckT_lt {T : Nat → Nat → Option Nat} {n a f b : Nat} (hb : b < n) (ba : b ≠ a) : ckT T n a f b = T b := by
  unfold ckT
  rw [am_ud_ne ba, am_ud_ne (by omega)]
section ctor2
variable {h M : AH} {T : Nat → Nat → Option Nat} {L : Nat}
def ckL (L : Nat) : List (Nat × Nat) := [(9, L), (3, 6), (2, 5), (5, 12), (5, 6), (5, 6)]
/-- Extremes -/
theorem x_ctor (s : ck h M (ckL L ++ [(0, 11)]) T) (e6 : T 6 = fun _ => none) : ∃ M' T', am_ev 0 0 [.ref 6] [] M = some (none, M') ∧ ck h M' (ckL L ++ [(0, 11), (6, 768), (6, 768), (5, 128), (5, 128), (6, 128), (6, 128), (5, 6), (5, 12)]) T' ∧ (∀ b, b < 6 → T' b = T b) ∧ T' 6 2 = some 7 ∧ T' 6 3 = some 8 ∧ T' 6 4 = some 9 ∧ T' 6 5 = some 10 ∧ T' 6 6 = some 11 ∧ T' 6 7 = some 12 ∧ T' 6 8 = some 13 ∧ T' 6 10 = some 14 := by
  rw [am_b0_0, if_pos (s.kd (a := 6) (k := 0) rfl)]
  have s1 := s.sI (a := 6) (n_lt rfl) (Or.inr (by omega)) 0
  have s2 := s1.sI (a := 6) (n_lt rfl) (Or.inr (by omega)) 1
  dsimp only
  rw [if_pos (s1.kd (a := 6) (k := 0) rfl)]
  rw [am_b0_14]
  obtain ⟨M3, e3, s3⟩ := s2.two (n_le rfl) (a := 6) (d := 0) (n_lt rfl) (Or.inr (by omega)) rfl 6 768 6 768 2 3 (fun M => am_ev 0 32 [.ref 6] [] M)
  rw [e3, am_b0_32]
  obtain ⟨M4, e4, s4⟩ := s3.two (n_le rfl) (a := 6) (d := 0) (n_lt rfl) (Or.inr (by omega)) rfl 5 128 5 128 4 5 (fun M => am_ev 0 50 [.ref 6] [] M)
  rw [e4, am_b0_50]
  obtain ⟨M5, e5, s5⟩ := s4.two (n_le rfl) (a := 6) (d := 0) (n_lt rfl) (Or.inr (by omega)) rfl 6 128 6 128 6 7 (fun M => am_ev 0 68 [.ref 6] [] M)
  rw [e5, am_b0_68]
  obtain ⟨M6, e6', s6⟩ := s5.one (n_le rfl) (a := 6) (d := 0) (n_lt rfl) (Or.inr (by omega)) rfl 5 6 8 (fun M => if am_kd M 6 = 0 then (let h3 := am_sI M 6 9 0; am_ev 0 81 [.ref 6] [] h3) else none)
  rw [e6']
  dsimp only
  rw [if_pos (s6.kd (a := 6) (k := 0) rfl), am_b0_81]
  have s7 := s6.sI (a := 6) (n_lt rfl) (Or.inr (by omega)) 9
  obtain ⟨M8, e8, s8⟩ := s7.one (n_le rfl) (a := 6) (d := 0) (n_lt rfl) (Or.inr (by omega)) rfl 5 12 10 (fun M => some (none, M))
  refine ⟨M8, _, e8, s8, ?_, rfl, rfl, rfl, rfl, rfl, rfl, rfl, rfl⟩
  intro b hb
  match b, hb with
  | 0, _ => rfl
  | 1, _ => rfl
  | 2, _ => rfl
  | 3, _ => rfl
  | 4, _ => rfl
  | 5, _ => rfl
def ckL2 (L : Nat) : List (Nat × Nat) := [(9, L), (3, 6), (2, 5), (5, 12), (5, 6), (5, 6), (0, 11), (6, 768), (6, 768), (5, 128), (5, 128), (6, 128), (6, 128), (5, 6), (5, 12)]
/-- a pad -/
theorem p_ctor (s : ck h M (ckL2 L ++ [(1, 9)]) T) (e6 : T 15 = fun _ => none) : ∃ M' T', am_ev 29 0 [.ref 15] [] M = some (none, M') ∧ ck h M' (ckL2 L ++ [(1, 9), (7, 60), (5, 12)]) T' ∧ (∀ b, b < 15 → T' b = T b) ∧ T' 15 2 = some 16 ∧ T' 15 3 = some 17 := by
  have s1 := s.sI (a := 15) (n_lt rfl) (Or.inr (by omega)) 0
  have s2 := s1.sI (a := 15) (n_lt rfl) (Or.inr (by omega)) 1
  rw [am_b29_0, if_pos (s.kd (a := 15) (k := 1) rfl)]
  dsimp only
  rw [if_pos (s1.kd (a := 15) (k := 1) rfl), am_b29_14]
  obtain ⟨M3, e3, s3⟩ := s2.two (n_le rfl) (a := 15) (d := 1) (n_lt rfl) (Or.inr (by omega)) rfl 7 60 5 12 2 3 (fun M => am_ev 29 30 [.ref 15] [] M)
  have s4 := s3.sI (a := 15) (n_lt rfl) (Or.inr (by omega)) 4
  have s5 := s4.sI (a := 15) (n_lt rfl) (Or.inr (by omega)) 5
  have s6 := s5.sI (a := 15) (n_lt rfl) (Or.inr (by omega)) 6
  have s7 := s6.sI (a := 15) (n_lt rfl) (Or.inr (by omega)) 7
  have s8 := s7.sI (a := 15) (n_lt rfl) (Or.inr (by omega)) 8
  rw [e3, am_b29_30, if_pos (s3.kd (a := 15) (k := 1) rfl)]
  dsimp only
  rw [if_pos (s4.kd (a := 15) (k := 1) rfl), am_b29_40, if_pos (s5.kd (a := 15) (k := 1) rfl)]
  dsimp only
  rw [if_pos (s6.kd (a := 15) (k := 1) rfl), am_b29_50, if_pos (s7.kd (a := 15) (k := 1) rfl)]
  refine ⟨_, _, rfl, s8, ?_, rfl, rfl⟩
  intro b hb
  rw [ckT_lt (Nat.lt_of_lt_of_le hb (n_le rfl)) (by omega), ckT_lt (Nat.lt_of_lt_of_le hb (n_le rfl)) (by omega)]
/-- the object -/
theorem o_ctor {M0 : AH} (t0 : M0.1 = [(9, L), (3, 6)]) (i0 : am_I M0 1 = fun _ => 0) (r0 : am_R M0 1 = fun _ => none) : ∃ h M T, am_ev 60 0 [.ref 1] [] M0 = some (none, M) ∧ am_I h 0 = am_I M0 0 ∧ sV h 2 (q_new 2 1) ∧ h.1 = ckL L ∧ ck h M (ckL2 L ++ [(1, 9), (7, 60), (5, 12), (8, 6), (8, 2)]) T ∧ (T 1 0 = some 2 ∧ T 1 1 = some 6 ∧ T 1 2 = some 15 ∧ T 1 3 = some 18 ∧ T 1 4 = some 19) ∧ (T 15 2 = some 16 ∧ T 15 3 = some 17) ∧ (T 18 = fun _ => none) ∧ (T 19 = fun _ => none) ∧ T 6 2 = some 7 ∧ T 6 3 = some 8 ∧ T 6 4 = some 9 ∧ T 6 5 = some 10 ∧ T 6 6 = some 11 ∧ T 6 7 = some 12 ∧ T 6 8 = some 13 ∧ T 6 10 = some 14 := by
  have n0 : M0.1.length = 2 := by rw [t0]; rfl
  obtain ⟨h, e, t, o, v⟩ := s_ctor (h := M0)
  rw [n0] at e o v
  rw [am_b60_0]
  dsimp only
  have k0 : am_kd (am_nw M0 2 5) M0.1.length = 2 := by unfold am_kd; show ((M0.1 ++ [(2, 5)]).getD _ _).1 = 2; rw [t0]; rfl
  have ht : h.1 = ckL L := by rw [t, t0]; rfl
  have s0 : ck h h (ckL L) (fun _ _ => none) := ⟨ht, fun b hb b1 => ⟨rfl, rfl⟩, fun b hb b1 => by
    rcases b1 with rfl | b1
    · rw [(o 1 (by omega)).1, (o 1 (by omega)).2.2]
      exact ⟨i0, r0⟩
    · exact absurd hb (by show ¬ b < 6; omega)⟩
  rw [if_pos k0, n0, e]
  rw [x_bV, if_pos (s0.kd (a := 1) (k := 3) rfl)]
  have s1 := s0.sR (a := 1) (n_lt rfl) (Or.inl rfl) 0 (some 2)
  have s2 := s1.nw (n_le rfl) 0 11
  rw [show (am_sR h 1 0 (some 2)).1.length = 6 from s1.len, if_pos (s2.kd (a := 6) (k := 0) rfl)]
  obtain ⟨M3, T3, e3, s3, b3, u3⟩ := x_ctor (L := L) s2 rfl
  rw [e3]
  rw [x_bV, if_pos (s3.kd (a := 1) (k := 3) rfl)]
  have s4 := s3.sR (a := 1) (n_lt rfl) (Or.inl rfl) 1 (some 6)
  have s5 := s4.nw (n_le rfl) 1 9
  rw [am_b60_26]
  dsimp only
  rw [show (am_sR M3 1 1 (some 6)).1.length = 15 from s4.len, if_pos (s5.kd (a := 15) (k := 1) rfl)]
  obtain ⟨M6, T6, e6, s6, b6, u6⟩ := p_ctor (L := L) s5 rfl
  rw [e6]
  rw [x_bV, if_pos (s6.kd (a := 1) (k := 3) rfl)]
  have s7 := s6.sR (a := 1) (n_lt rfl) (Or.inl rfl) 2 (some 15)
  obtain ⟨M8, e8, s8⟩ := s7.one (n_le rfl) (a := 1) (d := 3) (n_lt rfl) (Or.inl rfl) rfl 8 6 3 (fun M => am_ev 60 46 [.ref 1] [] M)
  dsimp only at e8
  rw [e8, am_b60_46]
  obtain ⟨M9, e9, s9⟩ := s8.one (n_le rfl) (a := 1) (d := 3) (n_lt rfl) (Or.inl rfl) rfl 8 2 4 (fun M => if am_kd M 1 = 3 then some (none, am_sI M 1 5 0) else none)
  dsimp only at e9 ⊢
  rw [e9, if_pos (s9.kd (a := 1) (k := 3) rfl)]
  have s10 := s9.sI (a := 1) (n_lt rfl) (Or.inl rfl) 5
  refine ⟨h, _, _, rfl, (o 0 (by omega)).1, v, ht, s10, ⟨?_, ?_, ?_, rfl, rfl⟩, ⟨?_, ?_⟩, rfl, rfl, ?_⟩
  · show T6 1 0 = some 2
    rw [b6 1 (by omega)]
    show T3 1 0 = some 2
    rw [b3 1 (by omega)]
    rfl
  · show T6 1 1 = some 6
    rw [b6 1 (by omega)]
    rfl
  · rfl
  · exact u6.1
  · exact u6.2
  · have e : ∀ k, ckT (ckT (am_ud T6 1 (am_ud (T6 1) 2 (some 15))) 18 1 3) 19 1 4 6 k = T3 6 k := fun k => by
      show T6 6 k = _
      rw [b6 6 (by omega)]
      rfl
    exact ⟨(e 2).trans u3.1, (e 3).trans u3.2.1, (e 4).trans u3.2.2.1, (e 5).trans u3.2.2.2.1, (e 6).trans u3.2.2.2.2.1, (e 7).trans u3.2.2.2.2.2.1, (e 8).trans u3.2.2.2.2.2.2.1, (e 10).trans u3.2.2.2.2.2.2.2⟩
variable {l : List (Nat × Nat)}
def ckL3 (L : Nat) : List (Nat × Nat) := [(9, L), (3, 6), (2, 5), (5, 12), (5, 6), (5, 6), (0, 11), (6, 768), (6, 768), (5, 128), (5, 128), (6, 128), (6, 128), (5, 6), (5, 12), (1, 9), (7, 60), (5, 12), (8, 6), (8, 2)]
end ctor2
