/-! ===== the two objects at the beginning ===== -/
def ckL5 (L : Nat) : List (Nat × Nat) := [(9, L), (3, 6), (2, 5), (5, 12), (5, 6), (5, 6), (0, 11), (6, 768), (6, 768), (5, 128), (5, 128), (6, 128), (6, 128), (5, 6), (5, 12), (1, 9), (7, 60), (5, 12), (8, 6), (8, 2), (9, L), (9, L)]
section begin
variable {L : Nat} {xs : Nat → Int32}
theorem l_obj {M0 : AH} (t0 : M0.1 = [(9, L), (3, 6)]) (i0 : am_I M0 1 = fun _ => 0) (r0 : am_R M0 1 = fun _ => none) : ∃ M, am_ev 60 0 [.ref 1] [] M0 = some (none, M) ∧ M.1 = ckL3 L ∧ ∀ N : AH, N.1 = ckL5 L → (∀ a, a < 20 → am_I N a = am_I M a ∧ am_J N a = am_J M a ∧ am_R N a = am_R M a) → cI N q_A0 ∧ xE N := by
  obtain ⟨h, M, T, e1, xh, v, th, s, t1, t15, t18, t19, t6⟩ := o_ctor t0 i0 r0
  refine ⟨M, e1, s.1, fun N N1 NN => ?_⟩
  have kd : ∀ {a k : Nat}, ((ckL5 L).getD a (99, 0)).1 = k → am_kd N a = k := fun e => by unfold am_kd; rw [N1]; exact e
  have ln : ∀ {a k : Nat}, ((ckL5 L).getD a (99, 0)).2 = k → am_ln N a = k := fun e => by unfold am_ln; rw [N1]; exact e
  have z : ∀ b, b < 20 → b = 1 ∨ 6 ≤ b → ∀ k, am_I N b k = 0 := fun b hb h1 k => by rw [(NN b hb).1]; exact s.I (Nat.lt_of_lt_of_le hb (n_le rfl)) h1 k
  have r : ∀ {b k v}, b < 20 → b = 1 ∨ 6 ≤ b → T b k = v → am_R N b k = v := fun {b k v} hb h1 e => by
    rw [(NN b hb).2.2, s.R (Nat.lt_of_lt_of_le hb (n_le rfl)) h1]
    exact e
  have r18 : ∀ k, am_R N 18 k = none := fun k => r (by omega) (by omega) (by rw [t18])
  have r19 : ∀ k, am_R N 19 k = none := fun k => r (by omega) (by omega) (by rw [t19])
  have cn : ∀ i, cr N i = none := fun i => by unfold cr; split; exact r18 _; exact r19 _
  refine ⟨⟨?_, ?_, ?_, ⟨z 1 (by omega) (by omega) 5, by show 0 ≤ 6; omega, fun i hi => by exact absurd hi (Nat.not_lt_zero i)⟩, fun i hi => r19 i, z 15 (by omega) (by omega) 0, by show 0 ≤ 60; omega, fun i hi => by exact absurd hi (Nat.not_lt_zero i)⟩, ⟨0, ?_, Or.inl (z 6 (by omega) (by omega) 9)⟩⟩
  · exact ⟨kd rfl, r (by omega) (by omega) t1.1, r (by omega) (by omega) t1.2.1, r (by omega) (by omega) t1.2.2.1, r (by omega) (by omega) t1.2.2.2.1, r (by omega) (by omega) t1.2.2.2.2, kd rfl, r (by omega) (by omega) t15.1, r (by omega) (by omega) t15.2, kd rfl, ln rfl, kd rfl, ln rfl, kd rfl, ln rfl, kd rfl, ln rfl, kd rfl, by rw [N1]; exact n_le rfl⟩
  · exact ⟨⟨0, by rw [N1]; rfl⟩, fun i hi a e => by (rw [cn i] at e; cases e), fun i j _ _ a e => by (rw [cn i] at e; cases e)⟩
  · refine v.cp (fun j hj => ?_) ?_
    · refine ⟨?_, ?_, ?_⟩
      · unfold am_kd
        rw [N1, th]
        match j, hj with
        | 0, _ => rfl
        | 1, _ => rfl
        | 2, _ => rfl
        | 3, _ => rfl
      · unfold am_ln
        rw [N1, th]
        match j, hj with
        | 0, _ => rfl
        | 1, _ => rfl
        | 2, _ => rfl
        | 3, _ => rfl
      · rw [(NN _ (by omega)).1]
        exact (s.2.1 (2 + j) (by omega) (by omega)).1
    · rw [(NN _ (by omega)).2.2]
      exact (s.2.1 2 (by omega) (by omega)).2
  · have k6 : ∀ a, a = 7 ∨ a = 8 → am_kd N a = 6 ∧ am_ln N a = 768 := by rintro a (rfl | rfl) <;> exact ⟨kd rfl, ln rfl⟩
    have k9 : ∀ a, a = 9 ∨ a = 10 → am_kd N a = 5 ∧ am_ln N a = 128 := by rintro a (rfl | rfl) <;> exact ⟨kd rfl, ln rfl⟩
    have k11 : ∀ a, a = 11 ∨ a = 12 → am_kd N a = 6 ∧ am_ln N a = 128 := by rintro a (rfl | rfl) <;> exact ⟨kd rfl, ln rfl⟩
    exact ⟨by omega, kd rfl, r (by omega) (by omega) t6.1, r (by omega) (by omega) t6.2.1, r (by omega) (by omega) t6.2.2.1, r (by omega) (by omega) t6.2.2.2.1, r (by omega) (by omega) t6.2.2.2.2.1, r (by omega) (by omega) t6.2.2.2.2.2.1, r (by omega) (by omega) t6.2.2.2.2.2.2.1, r (by omega) (by omega) t6.2.2.2.2.2.2.2, k6, k9, k11, ⟨kd rfl, ln rfl⟩, kd rfl, ln rfl⟩
end begin
section ext
variable {μ : Nat → Nat} {h H H1 : AH}
/-- the same cells, when H has grown elsewhere -/
theorem rH.re (W1 : rH μ h H) (hl : H.1.length ≤ H1.1.length) (hg : ∀ x, x < H.1.length → H1.1.getD x (99, 0) = H.1.getD x (99, 0)) (same : ∀ y, y < h.1.length → am_I H1 (μ y) = am_I H (μ y) ∧ am_J H1 (μ y) = am_J H (μ y) ∧ am_R H1 (μ y) = am_R H (μ y)) : rH (fun y => if y < h.1.length then μ y else H1.1.length + (y - h.1.length)) h H1 := by
  have hν : ∀ y, y < h.1.length → (fun y => if y < h.1.length then μ y else H1.1.length + (y - h.1.length)) y = μ y := fun y hy => if_pos hy
  refine ⟨fun i => ?_, fun y hy => ?_, fun x y hx hy e => ?_, fun y hy => ?_, fun y hy => ?_, W1.2.2.2.2.2⟩
  · show (if h.1.length + i < h.1.length then _ else H1.1.length + (h.1.length + i - h.1.length)) = _
    rw [if_neg (by omega)]
    omega
  · rw [hν y hy]
    have := W1.2.1 y hy
    omega
  · rw [hν x hx, hν y hy] at e
    exact W1.2.2.1 x y hx hy e
  · rw [hν y hy, hg _ (W1.2.1 y hy)]
    exact W1.2.2.2.1 y hy
  · rw [hν y hy]
    have k := W1.2.2.2.2.1 y hy
    have k2 := same y hy
    refine ⟨k2.1.trans k.1, k2.2.1.trans k.2.1, (k2.2.2.trans k.2.2).trans ?_⟩
    funext j
    cases e : am_R h y j with
    | none => rfl
    | some c => exact congrArg some (hν c (W1.2.2.2.2.2 y j c hy e)).symm
/-- two more cells that are the script -/
def rX (L : Nat) (h : AH) : AH := (h.1 ++ [(9, L), (9, L)], fun a => if a < h.1.length then am_I h a else am_I h 0, fun a => if a < h.1.length then am_J h a else am_J h 0, fun a => if a < h.1.length then am_R h a else am_R h 0)
def rXm (h H : AH) (μ : Nat → Nat) (a : Nat) : Nat := if a < h.1.length then μ a else if a < h.1.length + 2 then μ 0 else H.1.length + (a - (h.1.length + 2))
theorem rX.lt {L a : Nat} (ha : a < h.1.length) : am_I (rX L h) a = am_I h a ∧ am_J (rX L h) a = am_J h a ∧ am_R (rX L h) a = am_R h a := ⟨if_pos ha, if_pos ha, if_pos ha⟩
theorem rX.ge {L a : Nat} (ha : ¬ a < h.1.length) : am_I (rX L h) a = am_I h 0 ∧ am_J (rX L h) a = am_J h 0 ∧ am_R (rX L h) a = am_R h 0 := ⟨if_neg ha, if_neg ha, if_neg ha⟩
theorem rX.ln {L : Nat} : (rX L h).1.length = h.1.length + 2 := by show (h.1 ++ [(9, L), (9, L)]).length = _; simp
theorem rX.g {L a : Nat} (ha : a < h.1.length) : (rX L h).1.getD a (99, 0) = h.1.getD a (99, 0) := by
  show (h.1 ++ [(9, L), (9, L)]).getD a (99, 0) = _
  rw [List.getD_eq_getElem?_getD, List.getElem?_append_left ha, List.getD_eq_getElem?_getD]
theorem rX.g2 {L a : Nat} (ha : ¬ a < h.1.length) (h2 : a < h.1.length + 2) : (rX L h).1.getD a (99, 0) = (9, L) := by
  show (h.1 ++ [(9, L), (9, L)]).getD a (99, 0) = _
  rw [List.getD_eq_getElem?_getD, List.getElem?_append_right (by omega)]
  rcases (show a - h.1.length = 0 ∨ a - h.1.length = 1 by omega) with e | e <;> rw [e] <;> rfl
theorem rH.X {L : Nat} (W : rH μ h H) (h0 : 0 < h.1.length) (k0 : h.1.getD 0 (99, 0) = (9, L)) : rH (rXm h H μ) (rX L h) H := by
  have m1 : ∀ {a}, a < h.1.length → rXm h H μ a = μ a := fun ha => if_pos ha
  have m2 : ∀ {a}, ¬ a < h.1.length → a < h.1.length + 2 → rXm h H μ a = μ 0 := fun h1 h2 => by unfold rXm; rw [if_neg h1, if_pos h2]
  have kk : ∀ {a}, ¬ a < h.1.length → a < h.1.length + 2 → am_kd (rX L h) a = 9 := fun h1 h2 => by unfold am_kd; rw [rX.g2 h1 h2]
  have kz : am_kd h 0 = 9 := by unfold am_kd; rw [k0]
  have kl : ∀ {a}, a < h.1.length → am_kd (rX L h) a = am_kd h a := fun ha => by unfold am_kd; rw [rX.g ha]
  have nv : ∀ b : Nat, b < h.1.length → μ b = rXm h H μ b := fun b hb => (m1 hb).symm
  refine ⟨fun i => ?_, fun a ha => ?_, fun a b ha hb e => ?_, fun a ha => ?_, fun a ha => ?_, fun a k b ha e => ?_⟩
  · rw [rX.ln]
    unfold rXm
    rw [if_neg (by omega), if_neg (by omega)]
    omega
  · rw [rX.ln] at ha
    by_cases c : a < h.1.length
    · rw [m1 c]; exact W.2.1 a c
    · rw [m2 c ha]; exact W.2.1 0 h0
  · rw [rX.ln] at ha hb
    by_cases c : a < h.1.length
    · by_cases d : b < h.1.length
      · rw [m1 c, m1 d] at e
        rw [kl c]
        exact W.2.2.1 a b c d e
      · rw [m1 c, m2 d hb] at e
        right
        rw [kl c]
        rcases W.2.2.1 a 0 c h0 e with z | z
        · rw [z]; exact kz
        · exact z
    · exact Or.inr (kk c ha)
  · rw [rX.ln] at ha
    by_cases c : a < h.1.length
    · rw [m1 c, rX.g c]; exact W.2.2.2.1 a c
    · rw [m2 c ha, rX.g2 c ha, W.2.2.2.1 0 h0, k0]
  · rw [rX.ln] at ha
    have fin : ∀ {x y}, y < h.1.length → rXm h H μ x = μ y → am_I (rX L h) x = am_I h y ∧ am_J (rX L h) x = am_J h y ∧ am_R (rX L h) x = am_R h y → am_I H (rXm h H μ x) = am_I (rX L h) x ∧ am_J H (rXm h H μ x) = am_J (rX L h) x ∧ am_R H (rXm h H μ x) = fun k => (am_R (rX L h) x k).map (rXm h H μ) := fun {x y} hy e t => by
      have k := W.2.2.2.2.1 y hy
      rw [e, t.1, t.2.1, t.2.2]
      refine ⟨k.1, k.2.1, k.2.2.trans ?_⟩
      funext j
      cases ee : am_R h y j with
      | none => rfl
      | some c => exact congrArg some (nv c (W.2.2.2.2.2 y j c hy ee))
    by_cases c : a < h.1.length
    · exact fin c (m1 c) (rX.lt c)
    · exact fin h0 (m2 c ha) (rX.ge c)
  · rw [rX.ln] at ha ⊢
    by_cases c : a < h.1.length
    · rw [(rX.lt c).2.2] at e
      have := W.2.2.2.2.2 a k b c e
      omega
    · rw [(rX.ge c).2.2] at e
      have := W.2.2.2.2.2 0 k b h0 e
      omega
end ext
theorem rv_id (v : Value) : rv (fun a => a) v = v := by cases v <;> rfl
/-- what holds in the law: n changes have been made -/
def lw (L : Nat) (xs : Nat → Int32) (n : Nat) (H : AH) (A B : QA) : Prop := tw H 1 20 A B ∧ (am_ln H 0 = L ∧ am_I H 0 = xs) ∧ H.1.length ≤ 39 + 4 * n ∧ sm_sz H ≤ 5000 + L + 29 * n
section start2
variable {L : Nat} {xs : Nat → Int32}
theorem l_start2 : ∃ M N, am_ev 60 0 [.ref 1] [] (am_nw (am_h0 L xs) 3 6) = some (none, M) ∧ M.1.length = 20 ∧ am_kd (am_nw M 3 6) 20 = 3 ∧ am_ev 60 0 [.ref 20] [] (am_nw M 3 6) = some (none, N) ∧ lw L xs 0 N q_A0 q_A0 := by
  have n0 : (am_h0 L xs).1.length = 1 := rfl
  generalize e0 : am_nw (am_h0 L xs) 3 6 = M0
  have t0 : M0.1 = [(9, L), (3, 6)] := by rw [← e0]; rfl
  have i0 : am_I M0 1 = fun _ => 0 := by rw [← e0, am_nw_I, n0, am_ud_eq]
  have r0 : am_R M0 1 = fun _ => none := by rw [← e0, am_nw_R, n0, am_ud_eq]
  have x0 : am_I M0 0 = xs := by
    rw [← e0, am_nw_I, n0, am_ud_ne (by omega)]
    funext j
    show (if (0 : Nat) = 0 then xs j else 0) = _
    rw [if_pos rfl]
  have z0 : am_R M0 0 = fun _ => none := by rw [← e0, am_nw_R, n0, am_ud_ne (by omega)]; rfl
  have l0 : M0.1.length = 2 := by rw [t0]; rfl
  -- the first object: where it lies
  obtain ⟨M, e1, M1, MN⟩ := l_obj t0 i0 r0
  have lM : M.1.length = 20 := by rw [M1]; rfl
  have w0 : rH (fun a => a) M0 M0 := ⟨fun _ => rfl, fun _ h => h, fun _ _ _ _ e => Or.inl e, fun _ _ => rfl, fun a _ => ⟨rfl, rfl, by
    funext k
    cases am_R M0 a k <;> rfl⟩, fun a k b ha e => by
    rw [l0] at ha
    rcases (show a = 0 ∨ a = 1 by omega) with rfl | rfl
    · rw [z0] at e; cases e
    · rw [r0] at e; cases e⟩
  obtain ⟨M', f1, wM, -, fM⟩ := r_ev w0 (ls := [.ref 1]) (rl_cons (rok_r (by rw [l0]; omega)) rl_nil) e1
  have hM' : M' = M := by
    have f1 : am_ev 60 0 [.ref 1] [] M0 = some (none, M') := f1
    rw [e1] at f1
    cases f1
    rfl
  rw [hM'] at wM fM
  have k0 : am_kd M0 0 = 9 := by unfold am_kd; rw [t0]; rfl
  have f0 := fM 0 (by omega) (Or.inr k0)
  -- the second one
  have kM : M.1.getD 0 (99, 0) = (9, L) := by rw [M1]; rfl
  generalize eV : (([(9, L)], fun _ => am_I M 0, fun _ => am_J M 0, fun _ _ => none) : AH) = V
  have V1 : V.1 = [(9, L)] := by rw [← eV]
  have lV : V.1.length = 1 := by rw [V1]; rfl
  have wV : rH (fun a => if a = 0 then 0 else 19 + a) V M := by
    refine ⟨fun i => ?_, fun a ha => ?_, fun a b ha hb _ => ?_, fun a ha => ?_, fun a ha => ?_, fun a k b ha e => ?_⟩
    · dsimp only
      rw [lV, lM, if_neg (by omega)]
      omega
    · rw [lV] at ha
      obtain rfl : a = 0 := by omega
      show 0 < _
      omega
    · left; omega
    · rw [lV] at ha
      obtain rfl : a = 0 := by omega
      show M.1.getD 0 (99, 0) = _
      rw [kM, V1]
      rfl
    · rw [lV] at ha
      obtain rfl : a = 0 := by omega
      rw [← eV]
      refine ⟨rfl, rfl, ?_⟩
      show am_R M 0 = fun _ => none
      rw [f0.2.2, z0]
    · rw [← eV] at e
      cases e
  have wN := wV.nw 3 6
  generalize eM1 : am_nw M 3 6 = K at wN
  generalize eV0 : am_nw V 3 6 = V0 at wN
  have lK : K.1.length = 21 := by rw [← eM1]; show (M.1 ++ [(3, 6)]).length = 21; rw [List.length_append, lM]; rfl
  obtain ⟨P, e2, P1, PN⟩ := l_obj (M0 := V0) (L := L) (by rw [← eV0]; show V.1 ++ [(3, 6)] = _; rw [V1]; rfl) (by rw [← eV0, am_nw_I, lV, am_ud_eq]) (by rw [← eV0, am_nw_R, lV, am_ud_eq])
  have lV0 : V0.1.length = 2 := by rw [← eV0]; show (V.1 ++ [(3, 6)]).length = 2; rw [V1]; rfl
  obtain ⟨N, f2, wP, ⟨l, el, eL⟩, fN⟩ := r_ev wN (ls := [.ref 1]) (rl_cons (rok_r (by rw [lV0]; omega)) rl_nil) e2
  have f2 : am_ev 60 0 [.ref 20] [] K = some (none, N) := f2
  have lP : P.1.length = 20 := by rw [P1]; rfl
  have eN : N.1 = ckL3 L ++ [(3, 6)] ++ l := by rw [eL, ← eM1]; show M.1 ++ [(3, 6)] ++ l = _; rw [M1]
  have el2 : [(9, L), (3, 6)] ++ l = ckL3 L := by rw [← P1, el, ← eV0]; show _ = V.1 ++ [(3, 6)] ++ l; rw [V1]; rfl
  have ll : l = (ckL3 L).drop 2 := by rw [← el2]; rfl
  have N1 : N.1 = ckL3 L ++ [(3, 6)] ++ (ckL3 L).drop 2 := by rw [eN, ll]
  have lN : N.1.length = 39 := by rw [N1]; rfl
  have gK : ∀ x, x < M.1.length → N.1.getD x (99, 0) = M.1.getD x (99, 0) := fun x hx => by
    rw [eN, M1, List.append_assoc, List.getD_eq_getElem?_getD, List.getElem?_append_left (by rw [← M1]; exact hx), List.getD_eq_getElem?_getD]
  have same : ∀ y, y < M.1.length → am_I N y = am_I M y ∧ am_J N y = am_J M y ∧ am_R N y = am_R M y := fun y hy => by
    have kK : am_I K y = am_I M y ∧ am_J K y = am_J M y ∧ am_R K y = am_R M y := by
      rw [← eM1]
      exact ⟨am_ud_ne (by omega), am_ud_ne (by omega), am_ud_ne (by omega)⟩
    have k := fN y (by omega) (by
      by_cases e : y = 0
      · right
        rw [e]
        unfold am_kd
        rw [← eM1]
        show ((M.1 ++ [(3, 6)]).getD 0 (99, 0)).1 = 9
        rw [M1]
        rfl
      · left
        intro a ha
        rw [lV0] at ha
        rcases (show a = 0 ∨ a = 1 by omega) with rfl | rfl
        · exact e
        · show y ≠ 20; omega)
    exact ⟨k.1.trans kK.1, k.2.1.trans kK.2.1, k.2.2.trans kK.2.2⟩
  -- both with two more scripts, over what there is now
  have W1 := (wM.re (H1 := N) (by omega) gK same).X (L := L) (by omega) kM
  have W2 := wP.X (L := L) (by omega) (by rw [P1]; rfl)
  have c1 := MN (rX L M) (by show M.1 ++ _ = _; rw [M1]; rfl) (fun a ha => rX.lt (by omega))
  have c2 := PN (rX L P) (by show P.1 ++ _ = _; rw [P1]; rfl) (fun a ha => rX.lt (by omega))
  have aw : allwf q_A0 := ⟨q_new_wf (Or.inl rfl), by show 0 ≤ 6; omega, fun i hi => absurd hi (Nat.not_lt_zero i), fun i s _ e => by cases e⟩
  have s0 := same 0 (by omega)
  refine ⟨M, N, e1, lM, ?_, by rw [eM1]; exact f2, ⟨?_, rX L M, rX L P, _, _, ⟨W1, ⟨by rw [rX.ln]; omega, ?_⟩, ?_, c1.1, c1.2, aw⟩, ⟨W2, ⟨by rw [rX.ln]; omega, ?_⟩, ?_, c2.1, c2.2, aw⟩, fun x y hx hy e => ?_⟩, ⟨?_, ?_⟩, by omega, ?_⟩
  · unfold am_kd
    show ((M.1 ++ [(3, 6)]).getD 20 (99, 0)).1 = 3
    rw [M1]
    rfl
  · unfold am_kd; rw [gK 0 (by omega), kM]
  · unfold rXm
    rw [if_pos (by omega)]
    dsimp only
    rw [if_pos (by omega)]
  · unfold rXm
    rw [if_pos (by omega)]
    dsimp only
    rw [if_pos (by omega)]
  · unfold rXm
    rw [if_pos (by omega)]
    rfl
  · unfold rXm
    rw [if_pos (by omega)]
    rfl
  · rw [rX.ln] at hx hy
    unfold rXm at e ⊢
    by_cases cx : x < M.1.length
    · rw [if_pos cx] at e ⊢
      dsimp only at e ⊢
      rw [if_pos cx] at e ⊢
      by_cases cy : y < P.1.length
      · rw [if_pos cy] at e
        split at e <;> omega
      · rw [if_neg cy, if_pos hy] at e
        exact e
    · rw [if_neg cx, if_pos hx]
      dsimp only
      rw [if_pos (by omega)]
  · unfold am_ln; rw [gK 0 (by omega), kM]
  · rw [s0.1, f0.1, x0]
  · unfold sm_sz
    rw [N1]
    simp [ckL3]
    omega
end start2
