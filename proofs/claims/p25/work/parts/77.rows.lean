/-! ===== how large the numbers of a game's rows and extreme dice are ===== -/
def z_rng (g : Nat → Nat → Int32) : Prop := ∀ p, p < 2 → ∀ k, k < 6 → -9 ≤ (g p k).toInt ∧ (g p k).toInt ≤ 9
theorem q_wf.rng {s : QS} (w : q_wf s) : z_rng (q_g s) := fun p hp k hk => w.2.2.2 (6 * p + k) (by omega)
theorem q_ls_toInt {c : Nat} {g : Nat → Nat → Int32} {q k : Nat} (h3 : c = 2 ∨ c = 3) (hg : z_rng g) (hq : q < q_nq c) (hk : k < 2 * c) : (q_ls c g q k).toInt.natAbs ≤ if q_mv c k (q_pl q) = q_td c q then 18 else 0 := by
  unfold q_ls
  by_cases h : q_mv c k (q_pl q) = q_td c q
  · rw [if_pos h, if_pos h]
    have h6 : 2 * c ≤ 6 := by rcases h3 with e | e <;> omega
    have h1 := hg (q_pl q) (q_pl_lt q) k (by omega)
    have h2 := hg (q_pl q) (q_pl_lt q) _ (Nat.lt_of_lt_of_le (q_oc_lt h3 hq hk) h6)
    rw [i_sub (by omega) (by omega)]
    omega
  · rw [if_neg h, if_neg h]
    show (0 : Int32).toInt.natAbs ≤ 0
    decide
theorem z_l1_cnt {d b : Nat} {a : Nat → Int} {p : Nat → Prop} [DecidablePred p] (h : ∀ k, k < d → (a k).natAbs ≤ if p k then b else 0) : z_l1 d a ≤ b * q_cnt d p := by
  induction d with
  | zero => simp [z_l1]
  | succ d ih =>
    have i := ih (fun k hk => h k (by omega))
    have hd := h d (by omega)
    unfold z_l1
    rw [q_cnt_s]
    by_cases hp : p d
    · rw [if_pos hp, Nat.mul_add, Nat.mul_one]
      rw [if_pos hp] at hd
      omega
    · rw [if_neg hp]
      rw [if_neg hp] at hd
      omega
def z_L (c i : Nat) : Nat := if i < 2 * c then 1 else if i < 2 * c + 2 then 54 else 36
theorem z_L_pos (c i : Nat) : 1 ≤ z_L c i := by unfold z_L; split <;> (try split) <;> omega
theorem z_row_l1 {c : Nat} {g : Nat → Nat → Int32} (h3 : c = 2 ∨ c = 3) (hg : z_rng g) {i : Nat} (hi : i < 2 * c + q_nq c) : z_l1 (2 * c) (z_row c g i) ≤ z_L c i := by
  unfold z_L
  by_cases h1 : i < 2 * c
  · rw [if_pos h1]
    have := z_l1_cnt (d := 2 * c) (b := 1) (a := z_row c g i) (p := fun k => i = k) (fun k hk => by
      unfold z_row
      rw [if_pos h1]
      by_cases e : i = k
      · rw [if_pos e, if_pos e]; decide
      · rw [if_neg e, if_neg e]; decide)
    have h2 : q_cnt (2 * c) (fun k => i = k) = 1 := by
      have := q_cnt_but (n := 2 * c) (p := fun k => i = k) h1 rfl
      rw [q_cnt_none (fun k _ z => z.2 z.1.symm)] at this
      omega
    rw [h2] at this
    exact this
  · rw [if_neg h1]
    have hq : i - 2 * c < q_nq c := by omega
    have := z_l1_cnt (d := 2 * c) (b := 18) (a := z_row c g i) (p := fun k => q_mv c k (q_pl (i - 2 * c)) = q_td c (i - 2 * c)) (fun k hk => by
      unfold z_row
      rw [if_neg h1]
      exact q_ls_toInt h3 hg hq hk)
    have hd : ∀ c, c = 2 ∨ c = 3 → ∀ q, q < q_nq c → 18 * q_cnt (2 * c) (fun k => q_mv c k (q_pl q) = q_td c q) ≤ if q < 2 then 54 else 36 := by
      rintro c (rfl | rfl) <;> decide
    have h2 := hd c h3 _ hq
    have h3 : (i < 2 * c + 2) = (i - 2 * c < 2) := propext (by omega)
    simp only [h3]
    omega
theorem z_Lprod {c : Nat} {S : Nat → Nat} : ∀ (m b : Nat), m ≤ 5 → (∀ r r', r < r' → r' < m → S r < S r') → (∀ r, r < m → S r < b) → ∃ t, z_prod m (fun r => z_L c (S r)) * 2 ^ t ≤ 36 ^ m * 3 ^ t ∧ t ≤ (if 2 * c < b then 1 else 0) + (if 2 * c + 1 < b then 1 else 0) := by
  intro m
  induction m with
  | zero => intro b _ _ _; exact ⟨0, by simp [z_prod], by omega⟩
  | succ m ih =>
    intro b hm hS hb
    obtain ⟨t, h1, h2⟩ := ih (S m) (by omega) (fun r r' h h' => hS r r' h (by omega)) (fun r hr => hS r m hr (by omega))
    have hbm := hb m (by omega)
    unfold z_prod
    by_cases h3 : S m = 2 * c ∨ S m = 2 * c + 1
    · have e54 : z_L c (S m) = 54 := by unfold z_L; rw [if_neg (by omega), if_pos (by omega)]
      rw [e54]
      refine ⟨t + 1, ?_, ?_⟩
      · rw [Nat.pow_succ, Nat.pow_succ, Nat.pow_succ]
        calc z_prod m (fun r => z_L c (S r)) * 54 * (2 ^ t * 2) = z_prod m (fun r => z_L c (S r)) * 2 ^ t * 108 := by
              rw [show (108 : Nat) = 54 * 2 from rfl]; ac_rfl
          _ ≤ 36 ^ m * 3 ^ t * 108 := Nat.mul_le_mul_right _ h1
          _ = 36 ^ m * 36 * (3 ^ t * 3) := by rw [show (108 : Nat) = 36 * 3 from rfl]; ac_rfl
      · rcases h3 with h3 | h3
        · rw [if_neg (by omega), if_neg (by omega)] at h2
          rw [if_pos (by omega)]
          omega
        · rw [if_pos (by omega), if_neg (by omega)] at h2
          rw [if_pos (by omega), if_pos (by omega)]
          omega
    · have e36 : z_L c (S m) ≤ 36 := by unfold z_L; split <;> (try split) <;> omega
      refine ⟨t, ?_, ?_⟩
      · rw [Nat.pow_succ]
        calc z_prod m (fun r => z_L c (S r)) * z_L c (S m) * 2 ^ t ≤ z_prod m (fun r => z_L c (S r)) * 36 * 2 ^ t := Nat.mul_le_mul_right _ (Nat.mul_le_mul_left _ e36)
          _ = z_prod m (fun r => z_L c (S r)) * 2 ^ t * 36 := by ac_rfl
          _ ≤ 36 ^ m * 3 ^ t * 36 := Nat.mul_le_mul_right _ h1
          _ = 36 ^ m * 36 * 3 ^ t := by ac_rfl
      · refine Nat.le_trans h2 ?_
        have a1 : (if 2 * c < S m then 1 else 0) ≤ (if 2 * c < b then 1 else 0) := by
          by_cases y : 2 * c < S m
          · rw [if_pos y, if_pos (by omega)]; exact Nat.le_refl 1
          · rw [if_neg y]; exact Nat.zero_le _
        have a2 : (if 2 * c + 1 < S m then 1 else 0) ≤ (if 2 * c + 1 < b then 1 else 0) := by
          by_cases y : 2 * c + 1 < S m
          · rw [if_pos y, if_pos (by omega)]; exact Nat.le_refl 1
          · rw [if_neg y]; exact Nat.zero_le _
        exact Nat.add_le_add a1 a2
theorem z_Lprod5 {c m : Nat} {S : Nat → Nat} (hm : m ≤ 5) (hS : ∀ r r', r < r' → r' < m → S r < S r') : z_prod m (fun r => z_L c (S r)) ≤ 136048896 := by
  have hb : ∀ r, r < m → S r < S (m - 1) + 1 := fun r hr => by
    by_cases e : r = m - 1
    · rw [e]; omega
    · have := hS r (m - 1) (by omega) (by omega); omega
  obtain ⟨t, h1, h2⟩ := z_Lprod (c := c) m _ hm hS hb
  have ht : t ≤ 2 := by
    revert h2
    split <;> split <;> omega
  have hm' : m = 0 ∨ m = 1 ∨ m = 2 ∨ m = 3 ∨ m = 4 ∨ m = 5 := by omega
  have ht' : t = 0 ∨ t = 1 ∨ t = 2 := by omega
  clear h2 hb
  rcases hm' with rfl | rfl | rfl | rfl | rfl | rfl <;> rcases ht' with rfl | rfl | rfl <;> omega
theorem z_rowsmall {c t : Nat} {g : Nat → Nat → Int32} (h3 : c = 2 ∨ c = 3) (hg : z_rng g) (ht : t ≤ q_nq c) {S : Nat → Nat} (hS1 : ∀ r, r + 1 < 2 * c → S r < 2 * c + t) (hS2 : ∀ r r', r < r' → r' + 1 < 2 * c → S r < S r') {v : Nat → Int} (hv : z_prim (2 * c) v) (hk : ∀ w, (∀ r, r + 1 < 2 * c → z_dot (2 * c) (z_row c g (S r)) w = 0) → ∃ a b : Int, a ≠ 0 ∧ ∀ k, k < 2 * c → a * w k = b * v k) : ∀ k, k < 2 * c → (v k).natAbs ≤ 136048896 := by
  have hd : 2 * c = (2 * c - 1) + 1 := by rcases h3 with e | e <;> omega
  have h5 : 2 * c - 1 ≤ 5 := by rcases h3 with e | e <;> omega
  obtain ⟨x, x1, x2, x3⟩ := z_siegel (R := fun r => z_row c g (S r)) (L := fun r => z_L c (S r)) (X := 136048896) hd (fun r hr => ⟨z_row_l1 h3 hg (by have := hS1 r (by omega); omega), z_L_pos c _⟩) (z_Lprod5 h5 (fun r r' h h' => hS2 r r' h (by omega)))
  obtain ⟨a, b, ha, e⟩ := hk x (fun r hr => x3 r (by omega))
  exact z_shortest hv x1 ha e x2
/-- the numbers of extreme dice -/
theorem z_small {c t : Nat} {g : Nat → Nat → Int32} (h3 : c = 2 ∨ c = 3) (hg : z_rng g) (ht : t ≤ q_nq c) {v : Nat → Int} (hv : z_ext (2 * c) (2 * c + t) (z_row c g) v) : ∀ k, k < 2 * c → 0 ≤ v k ∧ v k ≤ 136048896 := by
  obtain ⟨S, s1, s2, s3⟩ := z_pick hv.2.1.1 hv.2.2
  intro k hk
  have h1 := z_rowsmall h3 hg ht (fun r hr => (s1 r hr).1) s2 hv.2.1 s3 k hk
  have h2 := hv.1.nn z_row_unit k hk
  omega
