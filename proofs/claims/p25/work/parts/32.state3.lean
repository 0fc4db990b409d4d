/-! ===== what a method leaves as it was; the class's State: its changes ===== -/
/-- kinds, sizes and references stay, and all rows but those of P -/
def am_fr (h h' : AH) (P : Nat → Prop) : Prop := h'.1 = h.1 ∧ am_R h' = am_R h ∧ (∀ b, ¬ P b → am_I h' b = am_I h b) ∧ ∀ b, ¬ P b → am_J h' b = am_J h b
theorem am_fr.rf {h : AH} {P : Nat → Prop} : am_fr h h P := ⟨rfl, rfl, fun _ _ => rfl, fun _ _ => rfl⟩
theorem am_fr.tr {h h1 h2 : AH} {P : Nat → Prop} (a : am_fr h h1 P) (b : am_fr h1 h2 P) : am_fr h h2 P := ⟨b.1.trans a.1, b.2.1.trans a.2.1, fun c hc => (b.2.2.1 c hc).trans (a.2.2.1 c hc), fun c hc => (b.2.2.2 c hc).trans (a.2.2.2 c hc)⟩
theorem am_fr.wk {h h1 : AH} {P P' : Nat → Prop} (a : am_fr h h1 P) (hp : ∀ b, P b → P' b) : am_fr h h1 P' := ⟨a.1, a.2.1, fun c hc => a.2.2.1 c (fun z => hc (hp c z)), fun c hc => a.2.2.2 c (fun z => hc (hp c z))⟩
theorem am_fr.kd {h h1 : AH} {P : Nat → Prop} (a : am_fr h h1 P) (b : Nat) : am_kd h1 b = am_kd h b := by unfold am_kd; rw [a.1]
theorem am_fr.ln {h h1 : AH} {P : Nat → Prop} (a : am_fr h h1 P) (b : Nat) : am_ln h1 b = am_ln h b := by unfold am_ln; rw [a.1]
theorem am_fr_rI {h : AH} {b : Nat} {f : Nat → Int32} {P : Nat → Prop} (hb : P b) : am_fr h (am_rI h b f) P := ⟨rfl, rfl, fun c hc => am_ud_ne (fun e => hc (e ▸ hb)), fun _ _ => rfl⟩
theorem am_fr_rJ {h : AH} {b : Nat} {f : Nat → Int64} {P : Nat → Prop} (hb : P b) : am_fr h (am_rJ h b f) P := ⟨rfl, rfl, fun _ _ => rfl, fun c hc => am_ud_ne (fun e => hc (e ▸ hb))⟩
/-- a row's first n numbers become those of F -/
def am_fl (h : AH) (w n : Nat) (F : Nat → Int32) : AH := am_rI h w (fun k => if k < n then F k else am_I h w k)
theorem am_ud_ud {α : Type} {f : Nat → α} {k : Nat} {v w : α} : am_ud (am_ud f k v) k w = am_ud f k w := by
  funext j
  unfold am_ud
  split <;> rfl
theorem am_ud_id {α : Type} {f : Nat → α} {k : Nat} : am_ud f k (f k) = f := by
  funext j
  unfold am_ud
  split
  · rename_i e; rw [e]
  · rfl
theorem am_fl_0 (h : AH) (w : Nat) (F : Nat → Int32) : am_fl h w 0 F = h := by
  unfold am_fl
  simp only [Nat.not_lt_zero, if_false]
  show (h.1, am_ud h.2.1 w (h.2.1 w), h.2.2.1, h.2.2.2) = h
  rw [am_ud_id]
theorem am_fl_s (h : AH) (w j : Nat) (F : Nat → Int32) : am_sI (am_fl h w j F) w j (F j) = am_fl h w (j + 1) F := by
  unfold am_fl am_sI am_rI
  dsimp only [am_I]
  rw [am_ud_ud, am_ud_eq]
  congr 2
  congr 1
  funext k
  unfold am_ud
  by_cases e : k = j
  · rw [if_pos e, e, if_pos (by omega)]
  · rw [if_neg e]
    dsimp only
    by_cases e2 : k < j
    · rw [if_pos e2, if_pos (by omega)]
    · rw [if_neg e2, if_neg (by omega)]
theorem am_fl_kd (h : AH) (w n : Nat) (F : Nat → Int32) (b : Nat) : am_kd (am_fl h w n F) b = am_kd h b := rfl
theorem am_fl_ln (h : AH) (w n : Nat) (F : Nat → Int32) (b : Nat) : am_ln (am_fl h w n F) b = am_ln h b := rfl
theorem am_fl_I {h : AH} {w n : Nat} {F : Nat → Int32} {k : Nat} (hk : k < n) : am_I (am_fl h w n F) w k = F k := by
  show am_ud (am_I h) w _ w k = _
  rw [am_ud_eq, if_pos hk]
theorem am_fl_ne {h : AH} {w n : Nat} {F : Nat → Int32} {b : Nat} (hb : b ≠ w) : am_I (am_fl h w n F) b = am_I h b := am_ud_ne hb
theorem s_fill2 {w n m : Nat} {v : Int32} (hn : n < 2 ^ 31) (hm : m < 2 ^ 31) : ∀ (d j : Nat) (h : AH), am_kd h w = 5 → am_ln h w = n → j + d = n → am_ev 93 2 [.ref w, .int (nI m), .int v, .int (nI j)] [] (am_fl h w j (fun k => if k < m then v else 0)) = some (none, am_fl h w n (fun k => if k < m then v else 0)) := by
  intro d
  induction d with
  | zero =>
    intro j h hk hl hj
    rw [am_b93_2]
    simp only [am_fl_kd, am_fl_ln, hk, hl]
    rw [if_pos (by omega), show Int32.ofNat n = nI n from rfl]
    simp only [q_lt (show j < 2 ^ 31 by omega) hn]
    rw [if_neg (by omega), show j = n by omega]
  | succ d ih =>
    intro j h hk hl hj
    rw [am_b93_2]
    simp only [am_fl_kd, am_fl_ln, hk, hl]
    rw [if_pos (by omega), show Int32.ofNat n = nI n from rfl]
    simp only [q_lt (show j < 2 ^ 31 by omega) hn, q_lt (show j < 2 ^ 31 by omega) hm, q_neg (show j < 2 ^ 31 by omega), nI_clamp (show j < 2 ^ 31 by omega)]
    rw [if_pos (by omega)]
    have e := am_fl_s h w j (fun k => if k < m then v else 0)
    have e2 := ih (j + 1) h hk hl (by omega)
    by_cases h1 : j < m
    · rw [if_pos h1] at e
      rw [if_pos h1, if_pos (by simp; omega)]
      simp only [nI_S]
      rw [e]
      exact e2
    · rw [if_neg h1] at e
      rw [if_neg h1, if_pos (by simp; omega)]
      simp only [nI_S]
      rw [e]
      exact e2
theorem s_fill {h : AH} {w n m : Nat} {v : Int32} (hk : am_kd h w = 5) (hl : am_ln h w = n) (hn : n < 2 ^ 31) (hm : m < 2 ^ 31) : am_ev 93 0 [.ref w, .int (nI m), .int v, am_ph] [] h = some (none, am_fl h w n (fun k => if k < m then v else 0)) := by
  rw [am_b93_0]
  have := s_fill2 (v := v) hn hm n 0 h hk hl (by omega)
  rw [am_fl_0] at this
  exact this
/-- a state, as a value: columns, the number that throws, points, weights, falls -/
abbrev QS : Type := Nat × Int32 × (Nat → Int32) × (Nat → Int32) × (Nat → Int32)
/-- the State at a holds it -/
def sV (h : AH) (a : Nat) (s : QS) : Prop := sS h a s.1 ∧ am_I h a 1 = s.2.1 ∧ (∀ k, k < 12 → am_I h (a + 1) k = s.2.2.1 k) ∧ (∀ k, k < 6 → am_I h (a + 2) k = s.2.2.2.1 k) ∧ ∀ k, k < 6 → am_I h (a + 3) k = s.2.2.2.2 k
/-- the rows of a State -/
def sP (a : Nat) : Nat → Prop := fun b => a ≤ b ∧ b < a + 4
def q_new (c : Nat) (x : Int32) : QS := (c, x, fun _ => 0, fun k => if k < 2 * c then 1 else 0, fun _ => 0)
theorem sS.fr {h h1 : AH} {P : Nat → Prop} {a c c1 : Nat} (S : sS h a c) (f : am_fr h h1 P) (e : am_I h1 a 0 = nI c1) (hc : c1 = 2 ∨ c1 = 3) : sS h1 a c1 := by
  obtain ⟨s1, s2, s3, s4, s5, s6, s7, s8, s9⟩ := S
  unfold sS
  rw [f.kd, f.kd, f.kd, f.kd, f.ln, f.ln, f.ln, f.2.1]
  exact ⟨s1, s2, s3, s4, s5, s6, s7, e, hc⟩
theorem sV.fr {h h1 : AH} {P : Nat → Prop} {a : Nat} {s : QS} (S : sV h a s) (f : am_fr h h1 P) (hp : ∀ b, P b → ¬ sP a b) : sV h1 a s := by
  have e : ∀ j, j < 4 → am_I h1 (a + j) = am_I h (a + j) := fun j hj => f.2.2.1 _ (fun z => hp _ z ⟨by omega, by omega⟩)
  have e0 : am_I h1 a = am_I h a := e 0 (by omega)
  obtain ⟨s1, s2, s3, s4, s5⟩ := S
  refine ⟨s1.fr f (by rw [e0]; exact s1.2.2.2.2.2.2.2.1) s1.c3, by rw [e0]; exact s2, fun k hk => ?_, fun k hk => ?_, fun k hk => ?_⟩
  · rw [e 1 (by omega)]; exact s3 k hk
  · rw [e 2 (by omega)]; exact s4 k hk
  · rw [e 3 (by omega)]; exact s5 k hk
theorem s_startAnew {h : AH} {a c c1 : Nat} (S : sS h a c) (hc : c1 = 2 ∨ c1 = 3) : ∃ h1, am_ev 41 0 [.ref a, .int (nI c1)] [] h = some (none, h1) ∧ am_fr h h1 (sP a) ∧ sV h1 a (q_new c1 (am_I h a 1)) := by
  have hc6 : 2 * c1 ≤ 6 := by rcases hc with rfl | rfl <;> omega
  refine ⟨am_fl (am_fl (am_fl (am_sI h a 0 (nI c1)) (a + 1) 12 (fun k => if k < 0 then 0 else 0)) (a + 2) 6 (fun k => if k < 2 * c1 then 1 else 0)) (a + 3) 6 (fun k => if k < 0 then 0 else 0), ?_, ?_, ?_⟩
  · have f1 : am_fr h (am_sI h a 0 (nI c1)) (sP a) := am_fr_rI ⟨Nat.le_refl _, by omega⟩
    have S1 : sS (am_sI h a 0 (nI c1)) a c1 := S.fr f1 (by show am_ud (am_I h) a _ a 0 = _; rw [am_ud_eq, am_ud_eq]) hc
    have S2 : sS (am_fl (am_sI h a 0 (nI c1)) (a + 1) 12 (fun k => if k < 0 then 0 else 0)) a c1 := S1.fr (P := sP a) (am_fr_rI ⟨by omega, by omega⟩) (by rw [am_fl_ne (by omega)]; exact S1.2.2.2.2.2.2.2.1) hc
    have S3 : sS (am_fl (am_fl (am_sI h a 0 (nI c1)) (a + 1) 12 (fun k => if k < 0 then 0 else 0)) (a + 2) 6 (fun k => if k < 2 * c1 then 1 else 0)) a c1 := S2.fr (P := sP a) (am_fr_rI ⟨by omega, by omega⟩) (by rw [am_fl_ne (by omega)]; exact S2.2.2.2.2.2.2.2.1) hc
    rw [am_b41_0, if_pos S.1]
    dsimp only
    rw [if_pos S1.1, S1.2.1]
    simp only [am_oe]
    rw [show (.int (0 : Int32) : Value) = .int (nI 0) from rfl, s_fill S1.2.2.2.2.1.1 S1.2.2.2.2.1.2 (by omega) (by omega)]
    simp only [am_bV]
    rw [show nI 0 = 0 from rfl, if_pos S2.1, S2.2.2.1]
    simp only []
    rw [if_pos S2.1, s_cells S2]
    simp only [am_bI]
    rw [s_fill S2.2.2.2.2.2.1.1 S2.2.2.2.2.2.1.2 (by omega) (by omega)]
    simp only [am_bV]
    rw [if_pos S3.1, S3.2.2.2.1]
    simp only []
    rw [show (.int (0 : Int32) : Value) = .int (nI 0) from rfl, s_fill S3.2.2.2.2.2.2.1.1 S3.2.2.2.2.2.2.1.2 (by omega) (by omega)]
    rfl
  · exact ((am_fr_rI ⟨Nat.le_refl _, by omega⟩).tr (am_fr_rI ⟨by omega, by omega⟩)).tr ((am_fr_rI ⟨by omega, by omega⟩).tr (am_fr_rI ⟨by omega, by omega⟩))
  · have f : am_fr h (am_fl (am_fl (am_fl (am_sI h a 0 (nI c1)) (a + 1) 12 (fun k => if k < 0 then 0 else 0)) (a + 2) 6 (fun k => if k < 2 * c1 then 1 else 0)) (a + 3) 6 (fun k => if k < 0 then 0 else 0)) (sP a) := ((am_fr_rI ⟨Nat.le_refl _, by omega⟩).tr (am_fr_rI ⟨by omega, by omega⟩)).tr ((am_fr_rI ⟨by omega, by omega⟩).tr (am_fr_rI ⟨by omega, by omega⟩))
    refine ⟨S.fr f ?_ hc, ?_, fun k hk => ?_, fun k hk => ?_, fun k hk => ?_⟩
    · rw [am_fl_ne (by omega), am_fl_ne (by omega), am_fl_ne (by omega)]
      show am_ud (am_I h) a _ a 0 = _
      rw [am_ud_eq, am_ud_eq]
      rfl
    · rw [am_fl_ne (by omega), am_fl_ne (by omega), am_fl_ne (by omega)]
      show am_ud (am_I h) a _ a 1 = _
      rw [am_ud_eq, am_ud_ne (by omega)]
      rfl
    · rw [am_fl_ne (by omega), am_fl_ne (by omega), am_fl_I hk]
      simp [q_new]
    · rw [am_fl_ne (by omega), am_fl_I hk]
      simp [q_new]
    · rw [am_fl_I hk]
      simp [q_new]

