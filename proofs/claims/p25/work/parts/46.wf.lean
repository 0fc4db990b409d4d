/-! ===== states as they can be: ranges ===== -/
def q_ns (n : Nat) (f : Nat → Nat) : Nat := match n with
  | 0 => 0
  | n + 1 => q_ns n f + f n
def q_wf (s : QS) : Prop := (s.1 = 2 ∨ s.1 = 3) ∧ (∃ W : Nat → Nat, (∀ k, k < 6 → s.2.2.2.1 k = nI (W k) ∧ W k ≤ 999 ∧ (2 * s.1 ≤ k → W k = 0)) ∧ 0 < q_ns 6 W) ∧ (∃ F : Nat → Nat, (∀ k, k < 6 → s.2.2.2.2 k = nI (F k) ∧ (2 * s.1 ≤ k → F k = 0)) ∧ q_ns 6 F ≤ 1000) ∧ ∀ k, k < 12 → -9 ≤ (s.2.2.1 k).toInt ∧ (s.2.2.1 k).toInt ≤ 9
theorem q_ns_sum {n : Nat} {f : Nat → Int32} {F : Nat → Nat} (h : ∀ k, k < n → f k = nI (F k)) : q_sum n f = nI (q_ns n F) := by
  induction n with
  | zero => rfl
  | succ n ih =>
    unfold q_sum q_ns
    rw [ih (fun k hk => h k (by omega)), h n (by omega), nI_add]
theorem q_ns_6 {c : Nat} {F : Nat → Nat} (h3 : c = 2 ∨ c = 3) (h : ∀ k, k < 6 → 2 * c ≤ k → F k = 0) : q_ns (2 * c) F = q_ns 6 F := by
  rcases h3 with rfl | rfl
  · have h4 := h 4 (by omega) (by omega)
    have h5 := h 5 (by omega) (by omega)
    show q_ns 4 F = q_ns 4 F + F 4 + F 5
    omega
  · rfl
theorem q_ns_ge {n : Nat} {F : Nat → Nat} {k : Nat} (hk : k < n) : F k ≤ q_ns n F := by
  induction n with
  | zero => omega
  | succ n ih =>
    unfold q_ns
    by_cases e : k = n
    · subst e; omega
    · have := ih (by omega); omega
theorem q_ns_ud {n : Nat} {F : Nat → Nat} {k v : Nat} (hk : k < n) : q_ns n (am_ud F k v) + F k = q_ns n F + v := by
  induction n with
  | zero => omega
  | succ n ih =>
    unfold q_ns
    by_cases e : k = n
    · subst e
      have : q_ns k (am_ud F k v) = q_ns k F := by
        have : ∀ m, m ≤ k → q_ns m (am_ud F k v) = q_ns m F := by
          intro m hm
          induction m with
          | zero => rfl
          | succ m ih2 => unfold q_ns; rw [ih2 (by omega), am_ud_ne (by omega)]
        exact this k (Nat.le_refl _)
      rw [this, am_ud_eq]
      omega
    · have := ih (by omega)
      rw [am_ud_ne (fun z => e z.symm)]
      omega
theorem q_ns_le {n m : Nat} {F : Nat → Nat} (h : ∀ k, k < n → F k ≤ m) : q_ns n F ≤ n * m := by
  induction n with
  | zero => exact Nat.zero_le _
  | succ n ih =>
    unfold q_ns
    have := ih (fun k hk => h k (by omega))
    have := h n (by omega)
    rw [Nat.add_mul]
    omega
theorem q_wf.c3 {s : QS} (w : q_wf s) : s.1 = 2 ∨ s.1 = 3 := w.1
theorem q_wf.sumW {s : QS} (w : q_wf s) : ∃ n : Nat, q_sum 6 s.2.2.2.1 = nI n ∧ q_sum (2 * s.1) s.2.2.2.1 = nI n ∧ 0 < n ∧ n ≤ 5994 := by
  obtain ⟨w1, ⟨W, w2, w3⟩, -, -⟩ := w
  have h6 : 2 * s.1 ≤ 6 := by rcases w1 with e | e <;> omega
  refine ⟨q_ns 6 W, q_ns_sum (fun k hk => (w2 k hk).1), ?_, w3, q_ns_le (m := 999) (fun k hk => (w2 k hk).2.1)⟩
  rw [q_ns_sum (F := W) (fun k hk => (w2 k (by omega)).1), q_ns_6 w1 (fun k hk h => (w2 k hk).2.2 h)]
theorem q_wf.sumF {s : QS} (w : q_wf s) : ∃ n : Nat, q_sum 6 s.2.2.2.2 = nI n ∧ q_sum (2 * s.1) s.2.2.2.2 = nI n ∧ n ≤ 1000 := by
  obtain ⟨w1, -, ⟨W, w2, w3⟩, -⟩ := w
  have h6 : 2 * s.1 ≤ 6 := by rcases w1 with e | e <;> omega
  refine ⟨q_ns 6 W, q_ns_sum (fun k hk => (w2 k hk).1), ?_, w3⟩
  rw [q_ns_sum (F := W) (fun k hk => (w2 k (by omega)).1), q_ns_6 w1 (fun k hk h => (w2 k hk).2 h)]
theorem q_new_wf {c : Nat} {x : Int32} (h3 : c = 2 ∨ c = 3) : q_wf (q_new c x) := by
  refine ⟨h3, ⟨fun k => if k < 2 * c then 1 else 0, fun k hk => ⟨?_, ?_, ?_⟩, ?_⟩, ⟨fun _ => 0, fun k hk => ⟨rfl, fun _ => rfl⟩, by decide⟩, fun k hk => ⟨?_, ?_⟩⟩
  · show (if k < 2 * c then (1 : Int32) else 0) = nI (if k < 2 * c then 1 else 0)
    split <;> rfl
  · dsimp only; split <;> omega
  · intro h; dsimp only; dsimp only [q_new] at h; rw [if_neg (by omega)]
  · rcases h3 with rfl | rfl <;> decide
  · show -9 ≤ (0 : Int32).toInt
    decide
  · show (0 : Int32).toInt ≤ 9
    decide
/-- the cell of the next throw; one throw -/
noncomputable def q_kk (s : QS) : Nat := q_fl s.2.2.2.1 (q_tgt (q_next s.2.1) (q_sum 6 s.2.2.2.1)) (2 * s.1 - 1) 0
noncomputable def q_thS (s : QS) (k : Nat) : QS := (s.1, q_next s.2.1, s.2.2.1, s.2.2.2.1, am_ud s.2.2.2.2 k (s.2.2.2.2 k + 1))
noncomputable def q_thr (s : QS) : QS × Nat := (q_thS s (q_kk s), q_kk s)
theorem q_thS_wf {s : QS} {n k0 : Nat} (w : q_wf s) (hk : k0 < 2 * s.1) (hn : ∃ F : Nat → Nat, (∀ k, k < 6 → s.2.2.2.2 k = nI (F k) ∧ (2 * s.1 ≤ k → F k = 0)) ∧ q_ns 6 F + (n + 1) ≤ 1000) : q_wf (q_thS s k0) ∧ ∃ F : Nat → Nat, (∀ k, k < 6 → (q_thS s k0).2.2.2.2 k = nI (F k) ∧ (2 * (q_thS s k0).1 ≤ k → F k = 0)) ∧ q_ns 6 F + n ≤ 1000 := by
  obtain ⟨c, x, g, w', f⟩ := s
  have h6 : 2 * c ≤ 6 := by rcases w.1 with e | e <;> (dsimp only at e; omega)
  unfold q_thS
  dsimp only at hk hn ⊢
  have key : ∃ F : Nat → Nat, (∀ k, k < 6 → am_ud f k0 (f k0 + 1) k = nI (F k) ∧ (2 * c ≤ k → F k = 0)) ∧ q_ns 6 F + n ≤ 1000 := by
    obtain ⟨F, f1, f2⟩ := hn
    refine ⟨am_ud F k0 (F k0 + 1), fun k hk2 => ?_, ?_⟩
    · unfold am_ud
      by_cases e : k = k0
      · rw [if_pos e, if_pos e, (f1 k0 (by omega)).1, nI_1]
        exact ⟨rfl, fun z => absurd z (by omega)⟩
      · rw [if_neg e, if_neg e]
        exact f1 k hk2
    · have := q_ns_ud (n := 6) (F := F) (k := k0) (v := F k0 + 1) (by omega)
      omega
  refine ⟨⟨w.1, w.2.1, ?_, w.2.2.2⟩, key⟩
  obtain ⟨F, f1, f2⟩ := key
  exact ⟨F, f1, by omega⟩
theorem q_kk_lt {s : QS} (w : q_wf s) : q_kk s < 2 * s.1 := by
  have h4 : 4 ≤ 2 * s.1 := by rcases w.1 with e | e <;> omega
  have := q_fl_le s.2.2.2.1 (q_tgt (q_next s.2.1) (q_sum 6 s.2.2.2.1)) (2 * s.1 - 1) 0
  unfold q_kk
  omega
noncomputable def q_thrs : Nat → QS × Nat → QS × Nat
  | 0, x => x
  | n + 1, x => q_thrs n (q_thr x.1)
theorem x_bm {x : Int} (h1 : -2147483648 ≤ x) (h2 : x < 2147483648) : x.bmod (2 ^ 32) = x := by
  rw [Int.bmod_def]
  omega
