/-! ===== the Model: sure cells, accounts, worth ===== -/
def q_or (n : Nat) (f : Nat → Int32) : Int32 := match n with
  | 0 => 0
  | n + 1 => q_or n f ||| f n
theorem q_or_congr {n : Nat} {f g : Nat → Int32} (h : ∀ k, k < n → f k = g k) : q_or n f = q_or n g := by
  induction n with
  | zero => rfl
  | succ n ih =>
    unfold q_or
    rw [ih (fun k hk => h k (by omega)), h n (by omega)]
theorem j_sum_s (n : Nat) (f : Nat → Int64) : j_sum (n + 1) f = j_sum n f + f n := rfl
theorem q_or_s (n : Nat) (f : Nat → Int32) : q_or (n + 1) f = q_or n f ||| f n := rfl
def q_set (k : Nat) : Int32 := (1 : Int32) <<< (nI k &&& 31)
theorem q_or0 (x : Int32) : x ||| 0 = x := Int32.or_zero
section model10
variable {h : AH} {A : QA}
def f_worth (A : QA) (x : Int32) : Int32 := if 0 ≤ x.toInt ∧ x.toInt ≤ 2 then q_thou (q_sum (2 * A.1.1) fun k => A.1.2.2.2.1 k * q_gb (q_g A.1) (q_vI x) k).toInt64 (q_sum (2 * A.1.1) A.1.2.2.2.1).toInt64 else -2
theorem q_w_rng {s : QS} (w : q_wf s) {k : Nat} (hk : k < 6) : 0 ≤ (s.2.2.2.1 k).toInt ∧ (s.2.2.2.1 k).toInt ≤ 999 := by
  obtain ⟨W, w1, -⟩ := w.2.1
  have := w1 k hk
  rw [this.1, nI_toInt (by omega)]
  omega
theorem q_wsum_pos {s : QS} (w : q_wf s) : 0 < (q_sum (2 * s.1) s.2.2.2.1).toInt64.toInt := by
  obtain ⟨n, -, n2, n3, n4⟩ := w.sumW
  rw [n2, x_l, nI_toInt (by omega)]
  omega
end model10
