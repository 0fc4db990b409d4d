/-! ===== the class's Extremes: sorting ===== -/
def z_sw {α : Type} (f : Nat → α) (j : Nat) : Nat → α := fun x => if x = j + 1 then f j else if x = j then f (j + 1) else f x
theorem z_sw_1 {α : Type} {f : Nat → α} {j : Nat} : z_sw f j (j + 1) = f j := if_pos rfl
theorem z_sw_0 {α : Type} {f : Nat → α} {j : Nat} : z_sw f j j = f (j + 1) := by
  unfold z_sw
  rw [if_neg (by omega), if_pos rfl]
theorem z_sw_n {α : Type} {f : Nat → α} {j x : Nat} (h1 : x ≠ j + 1) (h0 : x ≠ j) : z_sw f j x = f x := by
  unfold z_sw
  rw [if_neg h1, if_neg h0]
section sort
variable {h : AH} {c N b : Nat} {g : Nat → Nat → Int32} {E : Nat → Nat → Int64} {τ : Nat → Nat}
theorem x_exch {s : Nat → Int64} (X : xC h b N E τ) (hs : ∀ i, i < N → am_J h 12 i = s i) {j : Nat} (hj : j + 1 < N) : ∃ h1, am_ev 27 0 [.ref 6, .int (nI (j + 1)), .int (nI j), am_ph, am_ph, am_ph] [] h = some (none, h1) ∧ am_fr h h1 (fun a => a = 7 + b ∨ a = 9 + b ∨ a = 12) ∧ xC h1 b N (z_sw E j) (z_sw τ j) ∧ ∀ i, i < N → am_J h1 12 i = z_sw s j i := by
  have m := X.1
  have hb := m.1
  have hN := X.2.2.1
  let MM : Nat → AH := fun k => am_rJ h (7 + b) (fun x => if 6 * (j + 1) ≤ x ∧ x < 6 * (j + 1) + k then am_J h (7 + b) (x - 6) else if 6 * j ≤ x ∧ x < 6 * j + k then am_J h (7 + b) (x + 6) else am_J h (7 + b) x)
  have hM0 : MM 0 = h := am_rJ_id (by funext x; rw [if_neg (by omega), if_neg (by omega)])
  have hMJ : ∀ k, am_J (MM k) (7 + b) = fun x => if 6 * (j + 1) ≤ x ∧ x < 6 * (j + 1) + k then am_J h (7 + b) (x - 6) else if 6 * j ≤ x ∧ x < 6 * j + k then am_J h (7 + b) (x + 6) else am_J h (7 + b) x := fun k => am_rJ_J
  have hMs : ∀ k, k < 6 → am_sJ (am_sJ (MM k) (7 + b) (6 * (j + 1) + k) (am_J (MM k) (7 + b) (6 * j + k))) (7 + b) (6 * j + k) (am_J (MM k) (7 + b) (6 * (j + 1) + k)) = MM (k + 1) := fun k hk => by
    refine am_extJ rfl rfl (fun a x => ?_) rfl
    by_cases ea : a = 7 + b
    · subst ea
      rw [am_sJ_J, am_sJ_J, hMJ, hMJ]
      dsimp only
      by_cases e0 : x = 6 * j + k
      · rw [e0, am_ud_eq, if_neg (by omega), if_neg (by omega), if_neg (by omega), if_pos (by omega)]
        congr 1
        omega
      · rw [am_ud_ne e0]
        by_cases e1 : x = 6 * (j + 1) + k
        · rw [e1, am_ud_eq, if_neg (by omega), if_neg (by omega), if_pos (by omega)]
          congr 1
          omega
        · rw [am_ud_ne e1]
          by_cases e2 : 6 * (j + 1) ≤ x ∧ x < 6 * (j + 1) + k
          · rw [if_pos e2, if_pos (by omega)]
          · rw [if_neg e2]
            by_cases e3 : 6 * j ≤ x ∧ x < 6 * j + k
            · rw [if_pos e3, if_neg (show ¬ (6 * (j + 1) ≤ x ∧ x < 6 * (j + 1) + (k + 1)) by omega), if_pos (by omega)]
            · rw [if_neg e3, if_neg (show ¬ (6 * (j + 1) ≤ x ∧ x < 6 * (j + 1) + (k + 1)) by omega), if_neg (by omega)]
    · rw [am_sJ_ne ea, am_sJ_ne ea]
      show am_J (MM k) a x = am_J (MM (k + 1)) a x
      have : ∀ k, am_J (MM k) a = am_J h a := fun k => am_rJ_ne ea
      rw [this, this]
  have hmk : ∀ k, xL (MM k) b := fun k => m.fr (P := fun a => a = 7 + b) (am_fr_rJ rfl)
  let F := am_sJ (am_sJ (am_sI (am_sI (MM 6) (9 + b) (j + 1) (nI (τ j))) (9 + b) j (nI (τ (j + 1)))) 12 (j + 1) (s j)) 12 j (s (j + 1))
  have key : ∀ d k, k + d = 6 → am_ev 27 37 [.ref 6, .int (nI (j + 1)), .int (nI j), .int (nI k), am_ph, am_ph] [] (MM k) = some (none, F) := by
    intro d
    induction d with
    | zero =>
      intro k hk
      obtain rfl : k = 6 := by omega
      have m6 := hmk 6
      have t1 : am_I (MM 6) (9 + b) (j + 1) = nI (τ (j + 1)) := X.2.2.2.2 (j + 1) hj
      have t0 : am_I (MM 6) (9 + b) j = nI (τ j) := X.2.2.2.2 j (by omega)
      have ma : ∀ (k : Nat) (v : Int32), xL (am_sI (MM 6) (9 + b) k v) b := fun k v => m6.fr (P := fun a => a = 9 + b) (am_sI_fr rfl)
      have mb : ∀ (k : Nat) (v : Int32) (k' : Nat) (v' : Int32), xL (am_sI (am_sI (MM 6) (9 + b) k v) (9 + b) k' v') b := fun k v k' v' => (ma k v).fr (P := fun a => a = 9 + b) (am_sI_fr rfl)
      have mc : ∀ (k : Nat) (v : Int32) (k' : Nat) (v' : Int32) (k2 : Nat) (v2 : Int64), xL (am_sJ (am_sI (am_sI (MM 6) (9 + b) k v) (9 + b) k' v') 12 k2 v2) b := fun k v k' v' k2 v2 => (mb k v k' v').fr (P := fun a => a = 12) (am_fr_sJ rfl)
      rw [am_b27_37, x_c6, if_neg (by rw [x_lt (by omega) (by omega)]; omega), if_pos m6.k, m6.t, x_oe, x_cl (by omega), x_cl (by omega), if_pos ⟨Or.inl m6.kt, fun z => z.elim (nI_pos (by omega)) (by rw [m6.lt]; omega)⟩, if_pos m6.k, x_oe, if_pos m6.k, x_oe, if_pos ⟨Or.inl m6.kt, fun z => z.elim (nI_pos (by omega)) (by rw [m6.lt]; omega)⟩, if_pos ⟨m6.kt, fun z => z.elim (nI_pos (by omega)) (by rw [m6.lt]; omega)⟩, t0, t1]
      try dsimp only
      rw [if_pos (ma _ _).k, (ma _ _).t, x_oe, if_pos ⟨(ma _ _).kt, fun z => z.elim (nI_pos (by omega)) (by rw [(ma _ _).lt]; omega)⟩, if_pos (mb _ _ _ _).k, (mb _ _ _ _).su, x_oe, if_pos ⟨(mb _ _ _ _).k12, fun z => z.elim (nI_pos (by omega)) (by rw [(mb _ _ _ _).l12]; omega)⟩, if_pos (mb _ _ _ _).k, x_oe, if_pos (mb _ _ _ _).k, x_oe, if_pos ⟨(mb _ _ _ _).k12, fun z => z.elim (nI_pos (by omega)) (by rw [(mb _ _ _ _).l12]; omega)⟩, if_pos ⟨(mb _ _ _ _).k12, fun z => z.elim (nI_pos (by omega)) (by rw [(mb _ _ _ _).l12]; omega)⟩]
      have s0 : am_J (am_sI (am_sI (MM 6) (9 + b) (j + 1) (nI (τ j))) (9 + b) j (nI (τ (j + 1)))) 12 j = s j := by
        show am_J (MM 6) 12 j = s j
        have : am_J (MM 6) 12 = am_J h 12 := am_rJ_ne (by omega)
        rw [this]
        exact hs j (by omega)
      have s1 : am_J (am_sI (am_sI (MM 6) (9 + b) (j + 1) (nI (τ j))) (9 + b) j (nI (τ (j + 1)))) 12 (j + 1) = s (j + 1) := by
        show am_J (MM 6) 12 (j + 1) = s (j + 1)
        have : am_J (MM 6) 12 = am_J h 12 := am_rJ_ne (by omega)
        rw [this]
        exact hs (j + 1) hj
      rw [s0, s1]
      rw [if_pos (mc _ _ _ _ _ _).k, (mc _ _ _ _ _ _).su, x_oe, if_pos ⟨(mc _ _ _ _ _ _).k12, fun z => z.elim (nI_pos (by omega)) (by rw [(mc _ _ _ _ _ _).l12]; omega)⟩]
    | succ d ih =>
      intro k hk
      have mk := hmk k
      have i' := ih (k + 1) (by omega)
      rw [← hMs k (by omega)] at i'
      have mj : ∀ (q : Nat) (v : Int64), xL (am_sJ (MM k) (7 + b) q v) b := fun q v => mk.fr (P := fun a => a = 7 + b) (am_fr_sJ rfl)
      rw [am_b27_37, x_c6, if_pos (by rw [x_lt (by omega) (by omega)]; omega), if_pos mk.k, mk.w, x_oe, pk_mul, pk_mul, nI_add, nI_add, Nat.mul_comm (j + 1) 6, Nat.mul_comm j 6, x_cl (by omega), x_cl (by omega), if_pos ⟨mk.kw, fun z => z.elim (nI_pos (by omega)) (by rw [mk.lw]; omega)⟩, if_pos mk.k, x_oe, if_pos mk.k, x_oe, if_pos ⟨mk.kw, fun z => z.elim (nI_pos (by omega)) (by rw [mk.lw]; omega)⟩, if_pos ⟨mk.kw, fun z => z.elim (nI_pos (by omega)) (by rw [mk.lw]; omega)⟩]
      try dsimp only
      rw [if_pos (mj _ _).k, (mj _ _).w, x_oe, if_pos ⟨(mj _ _).kw, fun z => z.elim (nI_pos (by omega)) (by rw [(mj _ _).lw]; omega)⟩, nI_1]
      exact i'
  have f0 : am_fr h F (fun a => a = 7 + b ∨ a = 9 + b ∨ a = 12) := ((((am_fr_rJ (Or.inl rfl)).tr (am_sI_fr (Or.inr (Or.inl rfl)))).tr (am_sI_fr (Or.inr (Or.inl rfl)))).tr (am_fr_sJ (Or.inr (Or.inr rfl)))).tr (am_fr_sJ (Or.inr (Or.inr rfl)))
  refine ⟨F, ?_, f0, ⟨m.fr f0, ?_, hN, fun i hi k hk => ?_, fun i hi => ?_⟩, fun i hi => ?_⟩
  · have k0 := key 6 0 (by omega)
    rw [hM0, nI_0] at k0
    rw [am_b27_0, if_neg (nI_pos (by omega)), if_pos m.k, X.2.1, if_pos (by rw [x_lt (by omega) (by omega)]; exact hj), if_neg (nI_pos (by omega)), if_pos m.k, if_pos (by rw [x_lt (by omega) (by omega)]; omega), if_pos m.k, if_neg (by rw [show (128 : Int32) = nI 128 from rfl, x_lt (by omega) (by omega)]; omega)]
    exact k0
  · rw [f0.2.2.1 6 (by omega)]
    exact X.2.1
  · have e : am_J F (7 + b) = am_J (MM 6) (7 + b) := by
      have e1 : am_J F (7 + b) = am_J (am_sI (am_sI (MM 6) (9 + b) (j + 1) (nI (τ j))) (9 + b) j (nI (τ (j + 1)))) (7 + b) := by
        show am_J (am_sJ (am_sJ _ 12 (j + 1) (s j)) 12 j (s (j + 1))) (7 + b) = _
        rw [am_sJ_ne (by omega), am_sJ_ne (by omega)]
      rw [e1]
      rfl
    rw [e, hMJ]
    dsimp only
    by_cases e1 : i = j + 1
    · rw [e1, z_sw_1, if_pos (by omega), show 6 * (j + 1) + k - 6 = 6 * j + k by omega]
      exact X.2.2.2.1 j (by omega) k hk
    · by_cases e0 : i = j
      · rw [e0, z_sw_0, if_neg (by omega), if_pos (by omega), show 6 * j + k + 6 = 6 * (j + 1) + k by omega]
        exact X.2.2.2.1 (j + 1) hj k hk
      · rw [z_sw_n e1 e0, if_neg (by omega), if_neg (by omega)]
        exact X.2.2.2.1 i hi k hk
  · have e : am_I F (9 + b) = am_ud (am_ud (am_I h (9 + b)) (j + 1) (nI (τ j))) j (nI (τ (j + 1))) := by
      have e1 : am_I F = am_I (am_sI (am_sI (MM 6) (9 + b) (j + 1) (nI (τ j))) (9 + b) j (nI (τ (j + 1)))) := rfl
      rw [e1, am_sI_I, am_sI_I]
      rfl
    rw [e]
    by_cases e0 : i = j
    · rw [e0, z_sw_0, am_ud_eq]
    · rw [am_ud_ne e0]
      by_cases e1 : i = j + 1
      · rw [e1, z_sw_1, am_ud_eq]
      · rw [am_ud_ne e1, z_sw_n e1 e0]
        exact X.2.2.2.2 i hi
  · have e : am_J F 12 = am_ud (am_ud (am_J h 12) (j + 1) (s j)) j (s (j + 1)) := by
      have e1 : am_J F 12 = am_ud (am_J (am_sJ (am_sI (am_sI (MM 6) (9 + b) (j + 1) (nI (τ j))) (9 + b) j (nI (τ (j + 1)))) 12 (j + 1) (s j)) 12) j (s (j + 1)) := am_sJ_J
      rw [e1, am_sJ_J]
      have e2 : am_J (am_sI (am_sI (MM 6) (9 + b) (j + 1) (nI (τ j))) (9 + b) j (nI (τ (j + 1)))) 12 = am_J (MM 6) 12 := rfl
      have e3 : am_J (MM 6) 12 = am_J h 12 := am_rJ_ne (by omega)
      rw [e2, e3]
    rw [e]
    by_cases e0 : i = j
    · rw [e0, z_sw_0, am_ud_eq]
    · rw [am_ud_ne e0]
      by_cases e1 : i = j + 1
      · rw [e1, z_sw_1, am_ud_eq]
      · rw [am_ud_ne e1, z_sw_n e1 e0]
        exact hs i hi
end sort
