/-! ===== worths as whole numbers; the best extreme dice ===== -/
theorem w_ediv {a b q r : Int} (hb : 0 < b) (e : r + b * q = a) (h0 : 0 ≤ r) (h1 : r < b) : a / b = q := ((Int.ediv_emod_unique hb).2 ⟨e, h0, h1⟩).1
theorem q_div_int {a b : Int64} (hb : 0 < b.toInt) (ha : -9000000000000000000 ≤ a.toInt ∧ a.toInt ≤ 9000000000000000000) : (q_div a b).toInt = a.toInt / b.toInt := by
  have t := y_tm (x := a.toInt) hb
  have e := Int.mul_tdiv_add_tmod a.toInt b.toInt
  have hr := y_rem (a := a) hb
  unfold q_div
  simp only [lg_cmp_lt, y_lt, hr]
  rw [show (0 : Int64).toInt = 0 from rfl]
  have hd : -9000000000000000000 ≤ Int.tdiv a.toInt b.toInt := by
    have := Int.natAbs_tdiv_le_natAbs a.toInt b.toInt
    omega
  by_cases h : Int.tmod a.toInt b.toInt < 0
  · rw [if_pos h]
    have h1 : (a / b - (1 : Int64)).toInt = Int.tdiv a.toInt b.toInt - 1 := by
      have h2 := y_rng (a / b)
      rw [y_div hb] at h2
      rw [y_sub] <;> rw [y_div hb] <;> rw [show (1 : Int64).toInt = 1 from rfl] <;> omega
    rw [h1]
    refine (w_ediv (r := Int.tmod a.toInt b.toInt + b.toInt) hb ?_ (by omega) (by omega)).symm
    rw [Int.mul_sub]
    omega
  · rw [if_neg h, y_div hb]
    exact (w_ediv (r := Int.tmod a.toInt b.toInt) hb (by omega) (by omega) t.2.1).symm
theorem q_thou_int {P N : Int64} (hN : 0 < N.toInt) (hB : N.toInt ≤ 680244480) (hP : -(18 * N.toInt) ≤ P.toInt ∧ P.toInt ≤ 18 * N.toInt) : (q_thou P N).toInt = 1000 * P.toInt / N.toInt + 100000 ∧ -18000 ≤ 1000 * P.toInt / N.toInt ∧ 1000 * P.toInt / N.toInt ≤ 18000 := by
  have h1 : ((1000 : Int64) * P).toInt = 1000 * P.toInt := by
    rw [y_mul] <;> rw [show (1000 : Int64).toInt = 1000 from rfl] <;> omega
  have h2 : -18000 ≤ 1000 * P.toInt / N.toInt := (Int.le_ediv_iff_mul_le hN).2 (by omega)
  have h3 : 1000 * P.toInt / N.toInt ≤ 18000 := by
    have : 1000 * P.toInt / N.toInt < 18001 := (Int.ediv_lt_iff_lt_mul hN).2 (by omega)
    omega
  refine ⟨?_, h2, h3⟩
  unfold q_thou
  have h4 : ((q_div ((1000 : Int64) * P) N).toInt32).toInt = 1000 * P.toInt / N.toInt := by
    rw [Int64.toInt_toInt32, q_div_int hN (by rw [h1]; omega), h1, x_bm (by omega) (by omega)]
  rw [Int32.toInt_add, h4, show (100000 : Int32).toInt = 100000 from rfl, x_bm (by omega) (by omega)]
theorem z_div_le {a b c d : Int} (hb : 0 < b) (hd : 0 < d) (h : a * d ≤ c * b) : 1000 * a / b ≤ 1000 * c / d := by
  rw [← Int.mul_ediv_mul_of_pos (1000 * a) b hd, ← Int.mul_ediv_mul_of_pos (1000 * c) d hb, Int.mul_comm b d]
  refine Int.ediv_le_ediv (Int.mul_pos hd hb) ?_
  rw [Int.mul_left_comm, Int.mul_left_comm b, Int.mul_comm d a, Int.mul_comm b c]
  omega
theorem q_thou_le {P N P' N' : Int64} (hN : 0 < N.toInt) (hB : N.toInt ≤ 680244480) (hP : -(18 * N.toInt) ≤ P.toInt ∧ P.toInt ≤ 18 * N.toInt) (hN' : 0 < N'.toInt) (hB' : N'.toInt ≤ 680244480) (hP' : -(18 * N'.toInt) ≤ P'.toInt ∧ P'.toInt ≤ 18 * N'.toInt) (h : P.toInt * N'.toInt ≤ P'.toInt * N.toInt) : (q_thou P N).toInt ≤ (q_thou P' N').toInt := by
  rw [(q_thou_int hN hB hP).1, (q_thou_int hN' hB' hP').1]
  have := z_div_le hN hN' h
  omega
theorem q_thou_eq {P N P' N' : Int64} (hN : 0 < N.toInt) (hB : N.toInt ≤ 680244480) (hP : -(18 * N.toInt) ≤ P.toInt ∧ P.toInt ≤ 18 * N.toInt) (hN' : 0 < N'.toInt) (hB' : N'.toInt ≤ 680244480) (hP' : -(18 * N'.toInt) ≤ P'.toInt ∧ P'.toInt ≤ 18 * N'.toInt) (h : P.toInt * N'.toInt = P'.toInt * N.toInt) : q_thou P N = q_thou P' N' :=
  Int32.toInt_inj.1 (Int.le_antisymm (q_thou_le hN hB hP hN' hB' hP' (by omega)) (q_thou_le hN' hB' hP' hN hB hP (by omega)))
theorem z_ratio {a b c x y z : Int} (hx : 0 ≤ x) (hy : 0 < y) (hz : 0 ≤ z) (h1 : a * y ≤ b * x) (h2 : b * z ≤ c * y) : a * z ≤ c * x := by
  refine Int.le_of_mul_le_mul_right (a := y) ?_ hy
  have e1 := Int.mul_le_mul_of_nonneg_right h1 hz
  have e2 := Int.mul_le_mul_of_nonneg_right h2 hx
  have k1 : a * z * y = a * y * z := Int.mul_right_comm a z y
  have k2 : b * x * z = b * z * x := Int.mul_right_comm b x z
  have k3 : c * y * x = c * x * y := Int.mul_right_comm c y x
  rw [k1, ← k3]
  rw [k2] at e1
  exact Int.le_trans e1 e2
theorem z_sum_neg_le {n : Nat} {e l : Nat → Int} (he : ∀ k, k < n → 0 ≤ e k) (hl : ∀ k, k < n → -18 ≤ l k ∧ l k ≤ 18) : -(18 * z_sum n e) ≤ z_sum n (fun k => e k * l k) ∧ z_sum n (fun k => e k * l k) ≤ 18 * z_sum n e := by
  induction n with
  | zero => exact ⟨Int.le_refl _, Int.le_refl _⟩
  | succ n ih =>
    have i' := ih (fun k hk => he k (by omega)) (fun k hk => hl k (by omega))
    have h1 := he n (by omega)
    have h2 := hl n (by omega)
    have h3 : e n * l n ≤ e n * 18 := Int.mul_le_mul_of_nonneg_left h2.2 h1
    have h4 : e n * (-18) ≤ e n * l n := Int.mul_le_mul_of_nonneg_left h2.1 h1
    unfold z_sum
    omega
section worth
variable {s t : QS}
theorem gb_rng (w : q_wf s) {p k : Nat} (hp : p < 3) (hk : k < 6) : -18 ≤ (q_gb (q_g s) p k).toInt ∧ (q_gb (q_g s) p k).toInt ≤ 18 := by
  have h0 := w.rng 0 (by omega) k hk
  have h1 := w.rng 1 (by omega) k hk
  unfold q_gb
  by_cases e : p = 2
  · rw [if_pos e, Int32.toInt_add, x_bm (by omega) (by omega)]
    omega
  · rw [if_neg e]
    have := w.rng p (by omega) k hk
    omega
/-- an extreme dice: its weights, their sum, what it gives, as whole numbers -/
theorem e_int (w : q_wf s) (L : z_list s.1 (q_g s) (q_N s, q_E s)) {i : Nat} (hi : i < q_N s) : (∀ k, k < 6 → 0 ≤ (q_E s i k).toInt ∧ (q_E s i k).toInt ≤ 136048896) ∧ (f_sumE s i).toInt = z_sum (2 * s.1) (fun k => (q_E s i k).toInt) ∧ 0 < (f_sumE s i).toInt ∧ (f_sumE s i).toInt ≤ 680244480 ∧ ∀ p, p < 3 → (f_pts s i p).toInt = z_sum (2 * s.1) (fun k => (q_E s i k).toInt * (q_gb (q_g s) p k).toInt) ∧ -(18 * (f_sumE s i).toInt) ≤ (f_pts s i p).toInt ∧ (f_pts s i p).toInt ≤ 18 * (f_sumE s i).toInt := by
  have h3 := w.c3
  have h6 : 2 * s.1 ≤ 6 := by rcases h3 with e | e <;> omega
  have x := (L.2.1 i hi)
  have b2 : ∀ k, k < 6 → 0 ≤ (q_E s i k).toInt ∧ (q_E s i k).toInt ≤ 136048896 := fun k hk => by
    by_cases hk2 : k < 2 * s.1
    · exact z_small h3 w.rng (Nat.le_refl _) x.1 k hk2
    · have : q_E s i k = 0 := x.2 k (by omega)
      rw [this]; decide
  have e1 : f_sumE s i = j_sum (2 * s.1) (q_E s i) := j_sum_2c h3 x.2
  obtain ⟨j1, j2, j3⟩ := j_sum_int (B := 136048896) (f := q_E s i) (by omega) (2 * s.1) (by omega) (fun k hk => by have := b2 k (by omega); omega)
  have es : (f_sumE s i).toInt = z_sum (2 * s.1) (fun k => (q_E s i k).toInt) := by rw [e1, j1]
  have hpos : 0 < (f_sumE s i).toInt := by
    rw [es]
    exact z_ext.sum (z_row_unit (c := s.1) (t := q_nq s.1) (g := q_g s)) x.1
  have hup : (f_sumE s i).toInt ≤ 680244480 := by
    rw [es]
    exact z_sum_small h3 w.rng x.1
  refine ⟨b2, es, hpos, hup, fun p hp => ?_⟩
  have hl : ∀ k, k < 6 → -18 ≤ (q_gb (q_g s) p k).toInt ∧ (q_gb (q_g s) p k).toInt ≤ 18 := fun k hk => gb_rng w hp hk
  have e2 : f_pts s i p = j_sum 6 (fun k => q_E s i k * (q_gb (q_g s) p k).toInt64) := by
    rw [j_sum_2c (c := s.1) h3 (fun k hk => by rw [show q_E s i k = 0 from x.2 k hk]; exact Int64.zero_mul)]
    rfl
  have e3 := x_rowdot h6 (fun k _ hk => x.2 k hk) b2 hl
  have e4 : (f_pts s i p).toInt = z_sum (2 * s.1) (fun k => (q_E s i k).toInt * (q_gb (q_g s) p k).toInt) := by rw [e2]; exact e3.1
  rw [e4, es]
  exact ⟨rfl, z_sum_neg_le (fun k hk => (b2 k (by omega)).1) (fun k hk => hl k (by omega))⟩
/-- the best one is the best -/
theorem q_bst_opt (w : q_wf s) (L : z_list s.1 (q_g s) (q_N s, q_E s)) {p : Nat} (hp : p < 3) : ∀ d k l, k + d = q_N s → l < k → (∀ j, j < k → (f_pts s j p).toInt * (f_sumE s l).toInt ≤ (f_pts s l p).toInt * (f_sumE s j).toInt) → q_bst s p d k l < q_N s ∧ ∀ j, j < q_N s → (f_pts s j p).toInt * (f_sumE s (q_bst s p d k l)).toInt ≤ (f_pts s (q_bst s p d k l) p).toInt * (f_sumE s j).toInt := by
  intro d
  induction d with
  | zero =>
    intro k l hk hl h
    obtain rfl : k = q_N s := by omega
    exact ⟨hl, h⟩
  | succ d ih =>
    intro k l hk hl h
    have a := e_int w L (i := l) (by omega)
    have b := e_int w L (i := k) (by omega)
    have al := a.2.2.2.2 p hp
    have bl := b.2.2.2.2 p hp
    have m1 : (f_pts s l p * f_sumE s k).toInt = (f_pts s l p).toInt * (f_sumE s k).toInt := by
      have z := z_mulb (a := (f_sumE s k).toInt) (b := (f_pts s l p).toInt) (p := 680244480) (q := 12244400640) (by omega) (by omega) (by omega) (by omega)
      rw [Int.mul_comm (f_sumE s k).toInt] at z
      rw [y_mul (by omega) (by omega)]
    have m2 : (f_pts s k p * f_sumE s l).toInt = (f_pts s k p).toInt * (f_sumE s l).toInt := by
      have z := z_mulb (a := (f_sumE s l).toInt) (b := (f_pts s k p).toInt) (p := 680244480) (q := 12244400640) (by omega) (by omega) (by omega) (by omega)
      rw [Int.mul_comm (f_sumE s l).toInt] at z
      rw [y_mul (by omega) (by omega)]
    show q_bst s p d (k + 1) (if f_pts s l p * f_sumE s k < f_pts s k p * f_sumE s l then k else l) < q_N s ∧ _
    have e : q_bst s p (d + 1) k l = q_bst s p d (k + 1) (if f_pts s l p * f_sumE s k < f_pts s k p * f_sumE s l then k else l) := rfl
    rw [e]
    have hlt : (f_pts s l p * f_sumE s k < f_pts s k p * f_sumE s l) ↔ (f_pts s l p).toInt * (f_sumE s k).toInt < (f_pts s k p).toInt * (f_sumE s l).toInt := by rw [y_lt, m1, m2]
    by_cases c : f_pts s l p * f_sumE s k < f_pts s k p * f_sumE s l
    · rw [if_pos c]
      have c' := hlt.1 c
      refine ih (k + 1) k (by omega) (by omega) (fun j hj => ?_)
      by_cases ej : j = k
      · rw [ej]; exact Int.le_refl _
      · have hj2 := e_int w L (i := j) (by omega)
        exact z_ratio (by omega) a.2.2.1 (by omega) (h j (by omega)) (Int.le_of_lt c')
    · rw [if_neg c]
      have c' := fun z => c (hlt.2 z)
      refine ih (k + 1) l (by omega) (by omega) (fun j hj => ?_)
      by_cases ej : j = k
      · rw [ej]; exact Int.not_lt.1 c'
      · exact h j (by omega)
noncomputable def q_b (s : QS) (p : Nat) : Nat := q_bst s p (q_N s - 1) 1 0
theorem q_b_opt (w : q_wf s) (L : z_list s.1 (q_g s) (q_N s, q_E s)) {p : Nat} (hp : p < 3) : q_b s p < q_N s ∧ ∀ j, j < q_N s → (f_pts s j p).toInt * (f_sumE s (q_b s p)).toInt ≤ (f_pts s (q_b s p) p).toInt * (f_sumE s j).toInt := by
  have hN : 0 < q_N s := L.1.1
  exact q_bst_opt w L hp (q_N s - 1) 1 0 (by omega) (by omega) (fun j hj => by
    obtain rfl : j = 0 := by omega
    exact Int.le_refl _)
/-- worth of the best -/
noncomputable def q_bw (s : QS) (p : Nat) : Int32 := q_thou (f_pts s (q_b s p) p) (f_sumE s (q_b s p))
theorem f_best_bw {A : QA} {p : Nat} (hp : p < 3) : f_best A (nI p) 1 = q_bw A.1 p := by
  have et : (nI p).toInt = p := nI_toInt (by omega)
  have ep : q_vI (nI p) = p := by unfold q_vI; rw [et]; rfl
  unfold f_best
  rw [if_pos (by rw [et]; omega), if_pos (by decide), if_neg (by decide), ep]
  rfl
theorem wS.best {y : Nat} (S : wS y s t) (hy : y < 12) (w : q_wf s) (w' : q_wf t) (L : z_list s.1 (q_g s) (q_N s, q_E s)) (L' : z_list t.1 (q_g t) (q_N t, q_E t)) {p : Nat} (hp : p < 3) : q_bw t p = q_bw s p := by
  have h3 := w.c3
  obtain ⟨b1, b2⟩ := q_b_opt w L hp
  obtain ⟨d1, d2⟩ := q_b_opt w' L' hp
  have eb := e_int w L b1
  have ed := e_int w' L' d1
  obtain ⟨j, hj, -, j1, j2⟩ := S.to hy h3 L L' b1
  obtain ⟨i, hi, -, i1, i2⟩ := S.from_ hy h3 L L' d1
  have k1 := d2 j hj
  have k2 := b2 i hi
  rw [j1, j2 p hp] at k1
  rw [← i1, ← i2 p hp] at k2
  unfold q_bw
  exact q_thou_eq ed.2.2.1 ed.2.2.2.1 (ed.2.2.2.2 p hp).2 eb.2.2.1 eb.2.2.2.1 (eb.2.2.2.2 p hp).2 (Int.le_antisymm k2 k1)
/-- the state's own weights, as whole numbers -/
def q_wz (s : QS) (k : Nat) : Int := (s.2.2.2.1 k).toInt
theorem i_sum_int {B : Int} {f : Nat → Int32} (hB : 0 ≤ B) : ∀ n : Nat, (n : Int) * B < 2147483648 → (∀ k, k < n → -B ≤ (f k).toInt ∧ (f k).toInt ≤ B) → (q_sum n f).toInt = z_sum n (fun k => (f k).toInt) ∧ -((n : Int) * B) ≤ (q_sum n f).toInt ∧ (q_sum n f).toInt ≤ (n : Int) * B := by
  intro n
  induction n with
  | zero =>
    intro _ _
    show (0 : Int32).toInt = 0 ∧ _
    refine ⟨rfl, ?_, ?_⟩ <;> simp [q_sum]
  | succ n ih =>
    intro hn h
    have hn1 : ((n + 1 : Nat) : Int) * B = (n : Int) * B + B := by rw [Int.natCast_add, Int.add_mul]; simp
    rw [hn1] at hn ⊢
    obtain ⟨i1, i2, i3⟩ := ih (by omega) (fun k hk => h k (by omega))
    have h1 := h n (by omega)
    have e : (q_sum (n + 1) f).toInt = (q_sum n f).toInt + (f n).toInt := by
      show (q_sum n f + f n).toInt = _
      rw [Int32.toInt_add, x_bm (by omega) (by omega)]
    refine ⟨?_, by omega, by omega⟩
    rw [e, i1]
    rfl
theorem w_int (w : q_wf s) : (q_sum (2 * s.1) s.2.2.2.1).toInt = z_sum (2 * s.1) (q_wz s) ∧ 0 < z_sum (2 * s.1) (q_wz s) ∧ z_sum (2 * s.1) (q_wz s) ≤ 5994 ∧ (∀ p, p < 3 → (q_sum (2 * s.1) fun k => s.2.2.2.1 k * q_gb (q_g s) p k).toInt = z_sum (2 * s.1) (fun k => q_wz s k * (q_gb (q_g s) p k).toInt)) ∧ ∀ q, q < q_nq s.1 → (q_lf s.1 (q_g s) s.2.2.2.1 q).toInt = z_dot (2 * s.1) (z_row s.1 (q_g s) (2 * s.1 + q)) (q_wz s) := by
  have h3 := w.c3
  have h6 : 2 * s.1 ≤ 6 := by rcases h3 with e | e <;> omega
  have hw : ∀ k, k < 6 → 0 ≤ q_wz s k ∧ q_wz s k ≤ 999 := fun k hk => q_w_rng w hk
  obtain ⟨s1, s2, s3⟩ := i_sum_int (B := 999) (f := s.2.2.2.1) (by omega) (2 * s.1) (by omega) (fun k hk => by have := hw k (by omega); unfold q_wz at this; omega)
  obtain ⟨n, n1, n2, n3, n4⟩ := w.sumW
  have en : (q_sum (2 * s.1) s.2.2.2.1).toInt = n := by rw [n2, nI_toInt (by omega)]
  have hm : ∀ {a b : Int32} , (0 ≤ a.toInt ∧ a.toInt ≤ 999) → (-18 ≤ b.toInt ∧ b.toInt ≤ 18) → (a * b).toInt = a.toInt * b.toInt ∧ -17982 ≤ a.toInt * b.toInt ∧ a.toInt * b.toInt ≤ 17982 := fun {a b} ha hb => by
    have z := z_mulb ha.1 ha.2 hb.1 hb.2
    refine ⟨?_, by omega, by omega⟩
    rw [Int32.toInt_mul, x_bm (by omega) (by omega)]
  refine ⟨s1, ?_, ?_, fun p hp => ?_, fun q hq => ?_⟩
  · have : z_sum (2 * s.1) (q_wz s) = n := s1.symm.trans en
    omega
  · have : z_sum (2 * s.1) (q_wz s) = n := s1.symm.trans en
    omega
  · have k := fun k (hk : k < 2 * s.1) => hm (hw k (by omega)) (gb_rng w (p := p) hp (show k < 6 by omega))
    rw [(i_sum_int (B := 17982) (f := fun k => s.2.2.2.1 k * q_gb (q_g s) p k) (by omega) (2 * s.1) (by omega) (fun j hj => by rw [(k j hj).1]; exact (k j hj).2)).1]
    exact z_sum_congr (fun j hj => (k j hj).1)
  · have hl : ∀ k, k < 2 * s.1 → -18 ≤ (q_ls s.1 (q_g s) q k).toInt ∧ (q_ls s.1 (q_g s) q k).toInt ≤ 18 := fun k hk => by
      have := q_ls_toInt h3 w.rng hq hk
      split at this <;> omega
    have k := fun k (hk : k < 2 * s.1) => hm (hw k (by omega)) (hl k hk)
    unfold q_lf
    rw [(i_sum_int (B := 17982) (f := fun k => s.2.2.2.1 k * q_ls s.1 (q_g s) q k) (by omega) (2 * s.1) (by omega) (fun j hj => by rw [(k j hj).1]; exact (k j hj).2)).1]
    unfold z_dot
    exact z_sum_congr (fun j hj => by
      unfold z_row
      rw [if_neg (by omega), show 2 * s.1 + q - 2 * s.1 = q by omega]
      exact (k j hj).1)
/-- obeyed -/
def q_ob (s : QS) : Prop := z_feas (2 * s.1) (2 * s.1 + q_nq s.1) (z_row s.1 (q_g s)) (q_wz s)
theorem q_cnt_zero {n : Nat} {p : Nat → Prop} [DecidablePred p] : q_cnt n p = 0 ↔ ∀ k, k < n → ¬ p k := by
  induction n with
  | zero => exact ⟨fun _ k hk => absurd hk (by omega), fun _ => rfl⟩
  | succ n ih =>
    rw [q_cnt_s]
    by_cases h : p n
    · rw [if_pos h]
      exact ⟨fun z => by omega, fun z => absurd h (z n (by omega))⟩
    · rw [if_neg h, ih]
      exact ⟨fun z k hk => by
        by_cases e : k = n
        · rw [e]; exact h
        · exact z k (by omega), fun z k hk => z k (by omega)⟩
theorem q_ob_cnt (w : q_wf s) : q_cnt (q_nq s.1) (fun q => q_lf s.1 (q_g s) s.2.2.2.1 q < 0) = 0 ↔ q_ob s := by
  have h3 := w.c3
  have h6 : 2 * s.1 ≤ 6 := by rcases h3 with e | e <;> omega
  have k := (w_int w).2.2.2.2
  rw [q_cnt_zero]
  constructor
  · intro h i hi
    by_cases e : i < 2 * s.1
    · rw [z_dot_unit (z_row_unit (c := s.1) (t := q_nq s.1) (g := q_g s)) e]
      exact (q_w_rng w (by omega)).1
    · have h1 := h (i - 2 * s.1) (by omega)
      rw [Int32.lt_iff_toInt_lt, k _ (by omega), show 2 * s.1 + (i - 2 * s.1) = i by omega] at h1
      exact Int.not_lt.1 h1
  · intro h q hq
    rw [Int32.lt_iff_toInt_lt, k q hq]
    exact Int.not_lt.2 (h (2 * s.1 + q) (by omega))
/-- what is obeyed is worth no more than the best -/
theorem q_ob_le (w : q_wf s) (L : z_list s.1 (q_g s) (q_N s, q_E s)) (ob : q_ob s) {p : Nat} (hp : p < 3) : z_sum (2 * s.1) (fun k => q_wz s k * (q_gb (q_g s) p k).toInt) * (f_sumE s (q_b s p)).toInt ≤ (f_pts s (q_b s p) p).toInt * z_sum (2 * s.1) (q_wz s) := by
  obtain ⟨b1, b2⟩ := q_b_opt w L hp
  refine z_gen (z_row_unit (c := s.1) (t := q_nq s.1) (g := q_g s)) (P := fun x => z_sum (2 * s.1) (fun k => x k * (q_gb (q_g s) p k).toInt) * (f_sumE s (q_b s p)).toInt ≤ (f_pts s (q_b s p) p).toInt * z_sum (2 * s.1) x) ?_ ?_ ?_ ?_ ?_ ?_ _ (q_wz s) z_cnt ob
  · intro x y e h
    rw [z_sum_congr (f := y) (g := x) (fun k hk => (e k hk).symm), z_sum_congr (f := fun k => y k * (q_gb (q_g s) p k).toInt) (g := fun k => x k * (q_gb (q_g s) p k).toInt) (fun k hk => by rw [e k hk])]
    exact h
  · dsimp only
    rw [z_sum_0, z_sum_congr (g := fun _ => 0) (fun k _ => Int.zero_mul _), z_sum_0]
    simp
  · intro v hv
    obtain ⟨i, hi, e⟩ := L.2.2.1 v hv
    have k := b2 i hi
    have ei := e_int w L hi
    rw [(ei.2.2.2.2 p hp).1, ei.2.1] at k
    rw [z_sum_congr (f := v) (fun k hk => (e k hk).symm), z_sum_congr (f := fun k => v k * (q_gb (q_g s) p k).toInt) (g := fun k => (q_E s i k).toInt * (q_gb (q_g s) p k).toInt) (fun k hk => by rw [e k hk])]
    exact k
  · intro x y _ _ h1 h2
    dsimp only at h1 h2 ⊢
    rw [z_sum_congr (g := fun k => x k * (q_gb (q_g s) p k).toInt + y k * (q_gb (q_g s) p k).toInt) (fun k _ => Int.add_mul _ _ _), z_sum_add, z_sum_add, Int.add_mul, Int.mul_add]
    omega
  · intro m x hm _ h
    dsimp only at h ⊢
    rw [z_sum_congr (g := fun k => m * (x k * (q_gb (q_g s) p k).toInt)) (fun k _ => Int.mul_assoc _ _ _), z_sum_mul, z_sum_mul, Int.mul_assoc, Int.mul_left_comm (f_pts s (q_b s p) p).toInt]
    exact Int.mul_le_mul_of_nonneg_left h (Int.le_of_lt hm)
  · intro m x hm _ h
    dsimp only at h ⊢
    rw [z_sum_congr (g := fun k => m * (x k * (q_gb (q_g s) p k).toInt)) (fun k _ => Int.mul_assoc _ _ _), z_sum_mul, z_sum_mul, Int.mul_assoc, Int.mul_left_comm (f_pts s (q_b s p) p).toInt] at h
    exact Int.le_of_mul_le_mul_left h hm
theorem q_ob_worth {A : QA} (w : q_wf A.1) (L : z_list A.1.1 (q_g A.1) (q_N A.1, q_E A.1)) (ob : q_ob A.1) {p : Nat} (hp : p < 3) : ¬ q_bw A.1 p < f_worth A (nI p) := by
  have et : (nI p).toInt = p := nI_toInt (by omega)
  have ep : q_vI (nI p) = p := by unfold q_vI; rw [et]; rfl
  have k := w_int w
  have e := e_int w L (q_b_opt w L hp).1
  have h6 : 2 * A.1.1 ≤ 6 := by rcases w.c3 with e | e <;> omega
  unfold f_worth
  rw [if_pos (by rw [et]; omega), ep, Int32.lt_iff_toInt_lt]
  refine Int.not_lt.2 ?_
  unfold q_bw
  have b := z_sum_neg_le (n := 2 * A.1.1) (e := q_wz A.1) (l := fun k => (q_gb (q_g A.1) p k).toInt) (fun k hk => (q_w_rng w (by omega)).1) (fun k hk => gb_rng w hp (by omega))
  refine q_thou_le ?_ ?_ ?_ e.2.2.1 e.2.2.2.1 (e.2.2.2.2 p hp).2 ?_
  · rw [x_l, k.1]; exact k.2.1
  · rw [x_l, k.1]; omega
  · rw [x_l, x_l, k.1, k.2.2.2.1 p hp]; exact b
  · rw [x_l, x_l, k.1, k.2.2.2.1 p hp]; exact q_ob_le w L ob hp
end worth
