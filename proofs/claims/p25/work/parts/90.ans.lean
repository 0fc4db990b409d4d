/-! ===== the answers that speak of extreme dice ===== -/
noncomputable def q_ex (s : QS) : Nat × (Nat → Nat → Int64) := @Classical.epsilon _ ⟨(0, fun _ _ => 0)⟩ (fun E => z_list s.1 (q_g s) E)
noncomputable def q_N (s : QS) : Nat := (q_ex s).1
noncomputable def q_E (s : QS) : Nat → Nat → Int64 := (q_ex s).2
theorem q_ex_of {s : QS} {N : Nat} {E : Nat → Nat → Int64} (h : z_list s.1 (q_g s) (N, E)) : z_list s.1 (q_g s) (q_N s, q_E s) ∧ N = q_N s ∧ ∀ i, i < N → ∀ k, k < 6 → E i k = q_E s i k := by
  have h2 : z_list s.1 (q_g s) (q_ex s) := @Classical.epsilon_spec _ (fun E => z_list s.1 (q_g s) E) ⟨(N, E), h⟩
  obtain ⟨u1, u2⟩ := z_list_uniq h h2
  exact ⟨h2, u1, fun i hi k hk => (u2 i hi k).resolve_right (by omega)⟩
noncomputable def f_told (s : QS) (i : Nat) : Int32 := q_or 6 fun k => if (0 : Int64) < q_E s i k then q_set k else 0
noncomputable def f_any (s : QS) : Int32 := q_or (q_N s) (f_told s)
noncomputable def f_tset (s : QS) (i : Nat) : Int32 := q_or (q_nq s.1) fun q => if z_dot (2 * s.1) (z_row s.1 (q_g s) (2 * s.1 + q)) (fun k => (q_E s i k).toInt) = 0 then q_set q else 0
noncomputable def f_pts (s : QS) (i p : Nat) : Int64 := j_sum (2 * s.1) fun k => q_E s i k * (q_gb (q_g s) p k).toInt64
noncomputable def f_sumE (s : QS) (i : Nat) : Int64 := j_sum 6 (q_E s i)
noncomputable def q_bst (s : QS) (p : Nat) : Nat → Nat → Nat → Nat
  | 0, _, l => l
  | d + 1, k, l => q_bst s p d (k + 1) (if f_pts s l p * f_sumE s k < f_pts s k p * f_sumE s l then k else l)
noncomputable def f_best (A : QA) (x y : Int32) : Int32 := if 0 ≤ x.toInt ∧ x.toInt ≤ 2 then (if 0 ≤ y.toInt ∧ y.toInt ≤ 1 then (if y = 0 then nI (q_bst A.1 (q_vI x) (q_N A.1 - 1) 1 0) else q_thou (f_pts A.1 (q_bst A.1 (q_vI x) (q_N A.1 - 1) 1 0) (q_vI x)) (f_sumE A.1 (q_bst A.1 (q_vI x) (q_N A.1 - 1) 1 0))) else -2) else -2
noncomputable def f_extreme (A : QA) (x y : Int32) : Int32 := if 0 ≤ x.toInt ∧ x.toInt < q_N A.1 then (if 0 ≤ y.toInt ∧ y.toInt < 2 * (A.1.1 : Int) then (q_E A.1 (q_vI x) (q_vI y)).toInt32 else if y = nI 6 then (f_sumE A.1 (q_vI x)).toInt32 else if y = nI 7 then f_told A.1 (q_vI x) else if y = nI 8 then f_tset A.1 (q_vI x) else -2) else -1
noncomputable def f_never (A : QA) (x : Int32) : Int32 := if 0 ≤ x.toInt ∧ x.toInt ≤ 1 then (((1 : Int32) <<< (nI (if x = 0 then 2 else A.1.1) &&& 31)) - (1 : Int32)) &&& ((q_or (2 * A.1.1) fun k => if (f_any A.1 >>> (nI k &&& 31)) &&& (1 : Int32) = (1 : Int32) then (1 : Int32) <<< (nI (q_mv A.1.1 k (q_vI x)) &&& 31) else 0) ^^^ (-1 : Int32)) else -1
noncomputable def f_cell (A : QA) (r q y : Int32) : Int32 := if q_cellok A.1.1 r q then (if y = nI 0 then q_g A.1 0 (A.1.1 * q_vI r + q_vI q) + nI 100 else if y = nI 1 then q_g A.1 1 (A.1.1 * q_vI r + q_vI q) + nI 100 else if y = nI 2 then A.1.2.2.2.1 (A.1.1 * q_vI r + q_vI q) else if y = nI 3 then A.1.2.2.2.2 (A.1.1 * q_vI r + q_vI q) else if y = nI 4 then q_sure A.1.1 (q_g A.1) (A.1.1 * q_vI r + q_vI q) else if y = nI 5 then (f_any A.1 >>> (nI (A.1.1 * q_vI r + q_vI q) &&& 31)) &&& (1 : Int32) else -2) else -1
noncomputable def f_count (A : QA) (x : Int32) : Int32 := if x = nI 0 then nI A.1.1 else if x = nI 1 then nI (2 * A.1.1) else if x = nI 2 then nI (q_nq A.1.1) else if x = nI 3 then q_sum (2 * A.1.1) A.1.2.2.2.1 else if x = nI 4 then (if q_cnt (q_nq A.1.1) (fun q => q_lf A.1.1 (q_g A.1) A.1.2.2.2.1 q < 0) = 0 then 1 else 0) else if x = nI 5 then nI (q_cnt (q_nq A.1.1) (fun q => q_lf A.1.1 (q_g A.1) A.1.2.2.2.1 q < 0)) else if x = nI 6 then nI (q_N A.1) else if x = nI 7 then q_sum (2 * A.1.1) A.1.2.2.2.2 else if x = nI 8 then (q_sum (2 * A.1.1) fun k => A.1.2.2.2.2 k * q_gb (q_g A.1) 0 k) + (100000 : Int32) else if x = nI 9 then (q_sum (2 * A.1.1) fun k => A.1.2.2.2.2 k * q_gb (q_g A.1) 1 k) + (100000 : Int32) else if x = nI 10 then A.1.2.1 else if x = nI 11 then nI A.2.2.2.1 else if x = nI 12 then nI A.2.1.1 else -2
noncomputable def z_pif {α : Type} (P : Prop) (a b : α) : α := @ite α P (Classical.propDecidable P) a b
theorem z_pif_pos {α : Type} {P : Prop} {a b : α} (h : P) : z_pif P a b = a := @if_pos P (Classical.propDecidable P) h α a b
theorem z_pif_neg {α : Type} {P : Prop} {a b : α} (h : ¬ P) : z_pif P a b = b := @if_neg P (Classical.propDecidable P) h α a b
/-- a mixture -/
noncomputable def q_mixd (s : QS) (i : Nat) (x y : Int32) (k : Nat) : Int64 := Int32.toInt64 x * Int32.toInt64 (s.2.2.2.1 k) + Int32.toInt64 y * q_E s i k
noncomputable def q_mixw (s : QS) (i : Nat) (x y : Int32) : QS := (s.1, s.2.1, s.2.2.1, fun k => if k < 2 * s.1 then (q_mixd s i x y k).toInt32 else s.2.2.2.1 k, s.2.2.2.2)
noncomputable def f_mixes (A : QA) (i : Nat) (x y : Int32) : Int32 := z_pif (∃ k, k < 2 * A.1.1 ∧ (999 : Int64) < q_mixd A.1 i x y k) (-4) (q_sum (2 * A.1.1) (q_mixw A.1 i x y).2.2.2.1)
noncomputable def g_mixes (A : QA) (i : Nat) (x y : Int32) : QA := z_pif (∃ k, k < 2 * A.1.1 ∧ (999 : Int64) < q_mixd A.1 i x y k) A (q_mixw A.1 i x y, q_rec A, A.2.2)
noncomputable def f_take (A : QA) (x : Int32) : Int32 := if 0 ≤ x.toInt ∧ x.toInt < q_N A.1 then f_mixes A (q_vI x) 0 1 else -1
noncomputable def g_take (A : QA) (x : Int32) : QA := if 0 ≤ x.toInt ∧ x.toInt < q_N A.1 then g_mixes A (q_vI x) 0 1 else A
abbrev q_mixok (x y : Int32) : Prop := (0 ≤ x.toInt ∧ x.toInt ≤ 9) ∧ (0 ≤ y.toInt ∧ y.toInt ≤ 9) ∧ ¬ (x = 0 ∧ y = 0)
noncomputable def f_mix (A : QA) (n x y : Int32) : Int32 := if 0 ≤ n.toInt ∧ n.toInt < q_N A.1 then (if q_mixok x y then f_mixes A (q_vI n) x y else -2) else -1
noncomputable def g_mix (A : QA) (n x y : Int32) : QA := if 0 ≤ n.toInt ∧ n.toInt < q_N A.1 then (if q_mixok x y then g_mixes A (q_vI n) x y else A) else A
/-- sets as numbers -/
def q_orN (n : Nat) (f : Nat → Nat) : Nat := match n with
  | 0 => 0
  | n + 1 => q_orN n f ||| f n
theorem q_orN_s (n : Nat) (f : Nat → Nat) : q_orN (n + 1) f = q_orN n f ||| f n := rfl
theorem q_orN_nI (n : Nat) (f : Nat → Nat) : q_or n (fun k => nI (f k)) = nI (q_orN n f) := by
  induction n with
  | zero => exact nI_0.symm
  | succ n ih => rw [q_or_s, q_orN_s, ih, x_or]
theorem q_orN_bit {n r : Nat} {f : Nat → Nat} : (q_orN n f).testBit r = true ↔ ∃ q, q < n ∧ (f q).testBit r = true := by
  induction n with
  | zero =>
    show (0 : Nat).testBit r = true ↔ _
    rw [Nat.zero_testBit]
    constructor
    · intro z; exact absurd z (by simp)
    · rintro ⟨q, hq, -⟩; omega
  | succ n ih =>
    rw [q_orN_s, Nat.testBit_or, Bool.or_eq_true, ih]
    constructor
    · rintro (⟨q, hq, h⟩ | h)
      · exact ⟨q, by omega, h⟩
      · exact ⟨n, by omega, h⟩
    · rintro ⟨q, hq, h⟩
      by_cases e : q = n
      · rw [e] at h; exact Or.inr h
      · exact Or.inl ⟨q, by omega, h⟩
theorem q_set_nI {k : Nat} (hk : k < 8) : q_set k = nI (2 ^ k) := by
  have : ∀ k, k < 8 → q_set k = nI (2 ^ k) := by decide
  exact this k hk
theorem x_shr {n : Nat} (hn : n < 2 ^ 14) : nI n >>> ((6 : Int32) &&& 31) = nI (n / 64) := by
  rw [← Int32.toInt_inj, nI_toInt (show n / 64 < 2147483648 by omega)]
  have h1 : ((6 : Int32) &&& 31) = 6 := by decide
  rw [h1]
  show (nI n >>> (6 : Int32)).toBitVec.toInt = _
  rw [Int32.toBitVec_shiftRight]
  have h2 : (Int32.toBitVec 6).smod 32 = 6#32 := by decide
  rw [h2, BitVec.sshiftRight_eq', BitVec.toInt_sshiftRight]
  have h3 : (nI n).toBitVec.toInt = n := nI_toInt (show n < 2147483648 by omega)
  rw [h3, Int.shiftRight_eq_div_pow]
  have h4 : (6#32).toNat = 6 := by decide
  rw [h4]
  omega
theorem f_tset_of {s : QS} {i n : Nat} (h3 : s.1 = 2 ∨ s.1 = 3) (hb : xB s.1 (q_g s) (q_nq s.1) (fun k => (q_E s i k).toInt) n) : nI n >>> ((6 : Int32) &&& 31) = f_tset s i := by
  have h8 := q_nq_le h3
  rw [x_shr hb.1]
  unfold f_tset
  rw [q_or_congr (g := fun q => nI (if z_dot (2 * s.1) (z_row s.1 (q_g s) (2 * s.1 + q)) (fun k => (q_E s i k).toInt) = 0 then 2 ^ q else 0)) (fun q hq => by
    split
    · exact q_set_nI (by omega)
    · exact nI_0.symm), q_orN_nI]
  congr 1
  refine Nat.eq_of_testBit_eq (fun r => ?_)
  have e : (n / 64).testBit r = n.testBit (r + 6) := by rw [show (64 : Nat) = 2 ^ 6 from rfl, Nat.testBit_div_two_pow]
  rw [e]
  have hiff : n.testBit (r + 6) = true ↔ (q_orN (q_nq s.1) (fun q => if z_dot (2 * s.1) (z_row s.1 (q_g s) (2 * s.1 + q)) (fun k => (q_E s i k).toInt) = 0 then 2 ^ q else 0)).testBit r = true := by
    rw [hb.2, q_orN_bit]
    constructor
    · rintro (⟨z1, z2⟩ | ⟨q, z1, z2, z3⟩)
      · rcases h3 with z | z <;> omega
      · refine ⟨q, z1, ?_⟩
        rw [if_pos z3, Nat.testBit_two_pow, decide_eq_true_eq]
        omega
    · rintro ⟨q, z1, z2⟩
      right
      by_cases h0 : z_dot (2 * s.1) (z_row s.1 (q_g s) (2 * s.1 + q)) (fun k => (q_E s i k).toInt) = 0
      · rw [if_pos h0, Nat.testBit_two_pow, decide_eq_true_eq] at z2
        exact ⟨q, z1, by omega, h0⟩
      · rw [if_neg h0, Nat.zero_testBit] at z2
        exact absurd z2 (by simp)
  cases h1 : n.testBit (r + 6) with
  | true => exact (hiff.1 h1).symm
  | false =>
    cases h2 : (q_orN (q_nq s.1) (fun q => if z_dot (2 * s.1) (z_row s.1 (q_g s) (2 * s.1 + q)) (fun k => (q_E s i k).toInt) = 0 then 2 ^ q else 0)).testBit r with
    | true => rw [hiff.2 h2] at h1; exact absurd h1 (by simp)
    | false => rfl

