/-! ===== the state at the beginning ===== -/
def q_A0 : QA := (q_new 2 1, (0, fun _ => q_new 2 1), (fun _ => none), (0, fun _ => 0))
section start
variable {L : Nat} {xs : Nat → Int32}
theorem l_start : ∃ h, am_ev 165 0 [.ref 0, am_ph, am_ph, am_ph] [] (am_h0 L xs) = am_ev 165 18 [.ref 0, .ref 1, .ref 20, .int 0] [] h ∧ h.1 = ckL4 L ∧ am_I h 0 = xs ∧ cI h q_A0 ∧ xE h ∧ mI h q_A0 ∧ mE h q_A0.1 := by
  rw [am_b165_0]
  have n0 : (am_h0 L xs).1.length = 1 := rfl
  generalize e0 : am_nw (am_h0 L xs) 3 6 = M0
  have t0 : M0.1 = [(9, L), (3, 6)] := by rw [← e0]; rfl
  have i0 : am_I M0 1 = fun _ => 0 := by rw [← e0, am_nw_I, n0, am_ud_eq]
  have r0 : am_R M0 1 = fun _ => none := by rw [← e0, am_nw_R, n0, am_ud_eq]
  have x0 : am_I M0 0 = xs := by
    rw [← e0, am_nw_I, n0, am_ud_ne (by omega)]
    funext j
    show (if (0 : Nat) = 0 then xs j else 0) = _
    rw [if_pos rfl]
  obtain ⟨h, M, T, e1, xh, v, th, s, t1, t15, t18, t19, t6⟩ := o_ctor t0 i0 r0
  dsimp only
  rw [n0, if_pos (show am_kd M0 1 = 3 by unfold am_kd; rw [t0]; rfl), e1, x_bV]
  have s2 := s.nw (n_le rfl) 4 21
  rw [show M.1.length = 20 from s.len]
  rw [if_pos (s2.kd (a := 20) (k := 4) rfl)]
  obtain ⟨M', T', F, e2, s3, b3, m, vF⟩ := d_ctor (L := L) s2
  rw [e2, x_bV]
  generalize eN : am_sI (am_rI (am_sI M' 21 1 1) 21 F) 20 11 0 = N
  have N1 : N.1 = ckL4 L := by rw [← eN]; exact s3.1
  have kd : ∀ {a k : Nat}, ((ckL4 L).getD a (99, 0)).1 = k → am_kd N a = k := fun e => by unfold am_kd; rw [N1]; exact e
  have ln : ∀ {a k : Nat}, ((ckL4 L).getD a (99, 0)).2 = k → am_ln N a = k := fun e => by unfold am_ln; rw [N1]; exact e
  have NR : am_R N = am_R M' := by rw [← eN]; rfl
  have NI : ∀ b, b < 20 → am_I N b = am_I M' b := fun b hb => by rw [← eN, am_sI_ne (by omega), am_rI_ne (by omega), am_sI_ne (by omega)]
  have N21 : am_I N 21 = F := by rw [← eN, am_sI_ne (by omega), am_rI_I]
  have N20 : am_I N 20 = fun _ => 0 := by rw [← eN, am_sI_I, am_rI_ne (by omega), am_sI_ne (by omega), (s3.2.2 20 (n_lt rfl) (Or.inr (by omega))).1, am_ud_zero]
  have N22 : ∀ b, 22 ≤ b → b < 34 → ∀ k, am_I N b k = 0 := fun b hb h34 k => by rw [← eN, am_sI_ne (by omega), am_rI_ne (by omega), am_sI_ne (by omega)]; exact s3.I (Nat.lt_of_lt_of_le h34 (n_le rfl)) (Or.inr (by omega)) k
  have z : ∀ b, b < 20 → b = 1 ∨ 6 ≤ b → ∀ k, am_I N b k = 0 := fun b hb h1 k => by rw [NI b hb]; exact s3.I (Nat.lt_of_lt_of_le hb (n_le rfl)) h1 k
  have r : ∀ {b k v}, b < 20 → b = 1 ∨ 6 ≤ b → T b k = v → am_R N b k = v := fun {b k v} hb h1 e => by
    rw [NR, s3.R (Nat.lt_of_lt_of_le hb (n_le rfl)) h1, b3 b hb, am_ud_ne (by show b ≠ 20; omega)]
    exact e
  have r18 : ∀ k, am_R N 18 k = none := fun k => r (by omega) (by omega) (by rw [t18])
  have r19 : ∀ k, am_R N 19 k = none := fun k => r (by omega) (by omega) (by rw [t19])
  have cn : ∀ i, cr N i = none := fun i => by unfold cr; split; exact r18 _; exact r19 _
  refine ⟨N, rfl, N1, ?_, ⟨?_, ?_, ?_, ⟨z 1 (by omega) (by omega) 5, by show 0 ≤ 6; omega, fun i hi => by exact absurd hi (Nat.not_lt_zero i)⟩, fun i hi => r19 i, z 15 (by omega) (by omega) 0, by show 0 ≤ 60; omega, fun i hi => by exact absurd hi (Nat.not_lt_zero i)⟩, ⟨0, ?_, Or.inl (z 6 (by omega) (by omega) 9)⟩, ⟨m.of (N1.trans s3.1.symm) NR, by rw [N21]; exact vF, Or.inl rfl, ⟨by rw [N20]; rfl, by show 0 ≤ 6; omega, fun i hi => by exact absurd hi (Nat.not_lt_zero i)⟩, fun i hi => N22 24 (by omega) (by omega) i, by rw [N20]; rfl, by show 0 ≤ 60; omega, fun i hi => by exact absurd hi (Nat.not_lt_zero i)⟩, Or.inl (by rw [N20])⟩
  · rw [NI 0 (by omega), (s3.2.1 0 (by omega) (by omega)).1, xh, x0]
  · exact ⟨kd rfl, r (by omega) (by omega) t1.1, r (by omega) (by omega) t1.2.1, r (by omega) (by omega) t1.2.2.1, r (by omega) (by omega) t1.2.2.2.1, r (by omega) (by omega) t1.2.2.2.2, kd rfl, r (by omega) (by omega) t15.1, r (by omega) (by omega) t15.2, kd rfl, ln rfl, kd rfl, ln rfl, kd rfl, ln rfl, kd rfl, ln rfl, kd rfl, by rw [N1]; exact n_le rfl⟩
  · exact ⟨⟨0, by rw [N1]; rfl⟩, fun i hi a e => by (rw [cn i] at e; cases e), fun i j _ _ a e => by (rw [cn i] at e; cases e)⟩
  · refine v.cp (fun j hj => ?_) ?_
    · refine ⟨?_, ?_, ?_⟩
      · unfold am_kd
        rw [N1, th]
        match j, hj with
        | 0, _ => rfl
        | 1, _ => rfl
        | 2, _ => rfl
        | 3, _ => rfl
      · unfold am_ln
        rw [N1, th]
        match j, hj with
        | 0, _ => rfl
        | 1, _ => rfl
        | 2, _ => rfl
        | 3, _ => rfl
      · rw [NI _ (by omega)]
        exact (s3.2.1 (2 + j) (by omega) (by omega)).1
    · rw [NR]
      exact (s3.2.1 2 (by omega) (by omega)).2
  · have k6 : ∀ a, a = 7 ∨ a = 8 → am_kd N a = 6 ∧ am_ln N a = 768 := by rintro a (rfl | rfl) <;> exact ⟨kd rfl, ln rfl⟩
    have k9 : ∀ a, a = 9 ∨ a = 10 → am_kd N a = 5 ∧ am_ln N a = 128 := by rintro a (rfl | rfl) <;> exact ⟨kd rfl, ln rfl⟩
    have k11 : ∀ a, a = 11 ∨ a = 12 → am_kd N a = 6 ∧ am_ln N a = 128 := by rintro a (rfl | rfl) <;> exact ⟨kd rfl, ln rfl⟩
    exact ⟨by omega, kd rfl, r (by omega) (by omega) t6.1, r (by omega) (by omega) t6.2.1, r (by omega) (by omega) t6.2.2.1, r (by omega) (by omega) t6.2.2.2.1, r (by omega) (by omega) t6.2.2.2.2.1, r (by omega) (by omega) t6.2.2.2.2.2.1, r (by omega) (by omega) t6.2.2.2.2.2.2.1, r (by omega) (by omega) t6.2.2.2.2.2.2.2, k6, k9, k11, ⟨kd rfl, ln rfl⟩, kd rfl, ln rfl⟩
end start
