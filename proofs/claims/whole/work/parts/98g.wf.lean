/-! ===== all states that are kept stay as they can be ===== -/
def allwf (A : QA) : Prop := q_wf A.1 ∧ A.2.1.1 ≤ 6 ∧ (∀ i, i < A.2.1.1 → q_wf (A.2.1.2 i)) ∧ ∀ i s, i < 2 → A.2.2.1 i = some s → q_wf s
section allwf
variable {A : QA}
theorem allwf.rec (W : allwf A) {s : QS} (w : q_wf s) {B : (Nat → Option QS) × (Nat × (Nat → Int32))} (hB : B.1 = A.2.2.1) : allwf (s, q_rec A, B) := by
  obtain ⟨w1, w2, w3, w4⟩ := W
  refine ⟨w, q_recN_le w2, fun i hi => ?_, fun i s hi e => w4 i s hi (by rw [← hB]; exact e)⟩
  show q_wf (q_recH A.2.1.1 A.2.1.2 A.1 i)
  have hi' : i < q_recN A.2.1.1 := hi
  unfold q_recN at hi'
  unfold q_recH
  by_cases e : A.2.1.1 = 6
  · rw [if_pos e] at hi' ⊢
    by_cases e5 : i = 5
    · rw [if_pos e5]
      exact w1
    · rw [if_neg e5]
      exact w3 _ (by omega)
  · rw [if_neg e] at hi' ⊢
    by_cases e5 : i = A.2.1.1
    · rw [if_pos e5]
      exact w1
    · rw [if_neg e5]
      exact w3 _ (by omega)
theorem allwf_begin (W : allwf A) (x : Int32) : allwf (g_begin A x) := by
  unfold g_begin
  split
  · exact W.rec (q_new_wf (by omega)) rfl
  · exact W
theorem q_wf.pts {s : QS} (w : q_wf s) {G : Nat → Int32} (g : ∀ k, k < 12 → -9 ≤ (G k).toInt ∧ (G k).toInt ≤ 9) : q_wf (s.1, s.2.1, G, s.2.2.2.1, s.2.2.2.2) := ⟨w.1, w.2.1, w.2.2.1, g⟩
theorem allwf_points (W : allwf A) (p r q v : Int32) : allwf (g_points A p r q v) := by
  unfold g_points
  split
  · rename_i z
    refine W.rec (W.1.pts (fun k hk => ?_)) rfl
    unfold am_ud
    split
    · exact z.2.2
    · exact W.1.2.2.2 k hk
  · exact W
theorem allwf_weigh (W : allwf A) (r q v : Int32) : allwf (g_weigh A r q v) := by
  unfold g_weigh
  split
  · rename_i z
    obtain ⟨z1, z2, z3⟩ := z
    obtain ⟨jr, rfl, er, -⟩ := q_nI z1.1.1
    obtain ⟨jq, rfl, eq, -⟩ := q_nI z1.2.1
    obtain ⟨jv, rfl, ev, -⟩ := q_nI z2.1
    have vr : q_vI (nI jr) = jr := by unfold q_vI; omega
    have vq : q_vI (nI jq) = jq := by unfold q_vI; omega
    rw [vr, vq] at z3 ⊢
    have h3 := W.1.1
    have hk : A.1.1 * jr + jq < 2 * A.1.1 := by
      have : jr = 0 ∨ jr = 1 := by omega
      rcases this with rfl | rfl <;> omega
    have hk6 : A.1.1 * jr + jq < 6 := by omega
    generalize A.1.1 * jr + jq = k0 at z3 hk hk6 ⊢
    obtain ⟨w1, ⟨F, w2, w3⟩, w4, w5⟩ := W.1
    refine W.rec (s := (A.1.1, A.1.2.1, A.1.2.2.1, am_ud A.1.2.2.2.1 k0 (nI jv), A.1.2.2.2.2)) ⟨w1, ⟨am_ud F k0 jv, fun k hk => ?_, ?_⟩, w4, w5⟩ rfl
    · show am_ud A.1.2.2.2.1 k0 (nI jv) k = nI (am_ud F k0 jv k) ∧ am_ud F k0 jv k ≤ 999 ∧ (2 * A.1.1 ≤ k → am_ud F k0 jv k = 0)
      unfold am_ud
      by_cases e : k = k0
      · rw [if_pos e, if_pos e]
        exact ⟨rfl, by omega, fun z => by omega⟩
      · rw [if_neg e, if_neg e]
        exact w2 k hk
    · have u := q_ns_ud (F := F) (v := jv) hk6
      have g := q_ns_ge (F := F) hk6
      rcases Nat.eq_zero_or_pos (q_ns 6 (am_ud F k0 jv)) with e | e
      · exfalso
        apply z3
        have hj : jv = 0 := by omega
        rw [q_ns_sum (F := F) (fun k hk => (w2 k (by omega)).1), q_ns_6 h3 (fun k hk z => (w2 k hk).2.2 z), (w2 k0 hk6).1, hj, show q_ns 6 F = F k0 by omega]
        rw [Int32.sub_self]
        rfl
      · exact e
  · exact W
theorem allwf_forget (W : allwf A) (x : Int32) : allwf (g_forget A x) := by
  unfold g_forget
  split
  · exact W.rec (s := (A.1.1, x, A.1.2.2.1, A.1.2.2.2.1, fun _ => 0)) ⟨W.1.1, W.1.2.1, ⟨fun _ => 0, fun k hk => ⟨rfl, fun _ => rfl⟩, by decide⟩, W.1.2.2.2⟩ rfl
  · exact W
theorem allwf_roll (W : allwf A) (x : Int32) : allwf (g_roll A x) := by
  unfold g_roll
  split
  · rename_i z
    obtain ⟨h1, h2⟩ := z
    refine W.rec ?_ rfl
    obtain ⟨j, rfl, ej, -⟩ := q_nI (show 0 ≤ x.toInt by omega)
    have ev : q_vI (nI j) = j := by unfold q_vI; omega
    rw [ev]
    obtain ⟨n, n1, n2, n3⟩ := W.1.sumF
    rw [n2, nI_add, show (1000 : Int32) = nI 1000 from rfl, x_lt (by omega) (by omega)] at h2
    exact q_thrs_wf j (A.1, 0) W.1 (q_room_of W.1 n1 (by omega) (by omega))
  · exact W
theorem allwf_undo (W : allwf A) : allwf (g_undo A) := by
  unfold g_undo
  split
  · exact W
  · rename_i z
    have := W.2.1
    exact ⟨W.2.2.1 _ (by omega), (by show A.2.1.1 - 1 ≤ 6; omega), fun i hi => W.2.2.1 i (by have : i < A.2.1.1 - 1 := hi; omega), W.2.2.2⟩
theorem allwf_save (W : allwf A) (x : Int32) : allwf (g_save A x) := by
  unfold g_save
  split
  · refine ⟨W.1, W.2.1, W.2.2.1, fun i s hi e => ?_⟩
    have e' : am_ud A.2.2.1 (q_vI x) (some A.1) i = some s := e
    unfold am_ud at e'
    by_cases c : i = q_vI x
    · rw [if_pos c] at e'
      cases e'
      exact W.1
    · rw [if_neg c] at e'
      exact W.2.2.2 i s hi e'
  · exact W
theorem allwf_restore (W : allwf A) (x : Int32) : allwf (g_restore A x) := by
  unfold g_restore
  split
  · rename_i z
    split
    · exact W
    · rename_i s e
      refine W.rec (W.2.2.2 _ s ?_ e) rfl
      obtain ⟨j, rfl, ej, -⟩ := q_nI z.1
      have ev : q_vI (nI j) = j := by unfold q_vI; omega
      rw [ev]
      omega
  · exact W
theorem allwf_put (W : allwf A) (x : Int64) : allwf (g_put A x) := by
  unfold g_put
  split
  · exact W
  · split
    · exact W
    · exact ⟨W.1, W.2.1, W.2.2.1, W.2.2.2⟩
theorem allwf_wipe (W : allwf A) : allwf (g_wipe A) := ⟨W.1, W.2.1, W.2.2.1, W.2.2.2⟩
theorem allwf_mixes (W : allwf A) (L : z_list A.1.1 (q_g A.1) (q_N A.1, q_E A.1)) {i : Nat} (hi : i < q_N A.1) {x y : Int32} (ok : q_mixok x y) : allwf (g_mixes A i x y) := by
  unfold g_mixes
  by_cases e : ∃ k, k < 2 * A.1.1 ∧ (999 : Int64) < q_mixd A.1 i x y k
  · rw [z_pif_pos e]
    exact W
  · rw [z_pif_neg e]
    exact W.rec (q_mixw_wf W.1 L hi ok e) rfl
theorem allwf_take (W : allwf A) (L : z_list A.1.1 (q_g A.1) (q_N A.1, q_E A.1)) (x : Int32) : allwf (g_take A x) := by
  unfold g_take
  split
  · rename_i z
    refine allwf_mixes W L ?_ ⟨by decide, by decide, by decide⟩
    obtain ⟨j, rfl, ej, -⟩ := q_nI z.1
    have ev : q_vI (nI j) = j := by unfold q_vI; omega
    rw [ev]
    omega
  · exact W
theorem allwf_mix (W : allwf A) (L : z_list A.1.1 (q_g A.1) (q_N A.1, q_E A.1)) (n x y : Int32) : allwf (g_mix A n x y) := by
  unfold g_mix
  split
  · rename_i z
    split
    · rename_i ok
      refine allwf_mixes W L ?_ ok
      obtain ⟨j, rfl, ej, -⟩ := q_nI z.1
      have ev : q_vI (nI j) = j := by unfold q_vI; omega
      rw [ev]
      omega
    · exact W
  · exact W
/-- a reader's state -/
def p_ok (s : QP) : Prop := (∀ p r k, -9 ≤ (s.2.2.2.2.2.2 p r k).toInt ∧ (s.2.2.2.2.2.2 p r k).toInt ≤ 9) ∧ (s.2.1 = 0 → s.2.2.1 ≤ 3 ∧ (s.1 < 3 → s.2.2.1 ≤ 2)) ∧ (s.2.1 ≠ 0 → s.2.2.2.2.2.1 = 2 ∨ s.2.2.2.2.2.1 = 3)
theorem x_dig {ch : Int32} (h : 48 ≤ ch.toInt ∧ ch.toInt ≤ 57) : (ch - 48).toInt = ch.toInt - 48 ∧ (48 - ch).toInt = 48 - ch.toInt := by
  have e : (48 : Int32).toInt = 48 := rfl
  constructor
  · rw [Int32.toInt_sub, e, Int.bmod_eq_of_le] <;> omega
  · rw [Int32.toInt_sub, e, Int.bmod_eq_of_le] <;> omega
theorem p_dig_ok {r k p g c : Nat} {N : Nat → Nat → Nat → Int32} {ch : Int32} {s' : QP} (n : ∀ p r k, -9 ≤ (N p r k).toInt ∧ (N p r k).toInt ≤ 9) (h0 : r = 0 → k ≤ 2) (h1 : r ≠ 0 → c = 2 ∨ c = 3) (e : p_dig r k p g c N ch = some s') : p_ok s' := by
  unfold p_dig at e
  by_cases d : 48 ≤ ch.toInt ∧ ch.toInt ≤ 57
  · rw [if_pos d] at e
    cases e
    have x := x_dig d
    refine ⟨fun p' r' k' => ?_, fun z => ?_, h1⟩
    · show -9 ≤ (p_set N p r k (if g = 0 then ch - 48 else 48 - ch) p' r' k').toInt ∧ (p_set N p r k (if g = 0 then ch - 48 else 48 - ch) p' r' k').toInt ≤ 9
      unfold p_set
      by_cases c1 : p' = p ∧ r' = r ∧ k' = k
      · rw [if_pos c1]
        by_cases c2 : g = 0
        · rw [if_pos c2, x.1]; omega
        · rw [if_neg c2, x.2]; omega
      · rw [if_neg c1]
        exact n p' r' k'
    · have := h0 z
      show (if p = 0 then k else k + 1) ≤ 3 ∧ ((if p = 0 then 2 else 3) < 3 → (if p = 0 then k else k + 1) ≤ 2)
      by_cases c1 : p = 0
      · rw [if_pos c1, if_pos c1]; omega
      · rw [if_neg c1, if_neg c1]; omega
  · rw [if_neg d] at e
    cases e
theorem p_step_ok {s s' : QP} {ch : Int32} (o : p_ok s) (e : p_step s ch = some s') : p_ok s' := by
  obtain ⟨d, r, k, p, g, c, N⟩ := s
  obtain ⟨n, h0, h1⟩ := o
  dsimp only at n h0 h1
  match d, h0, e with
  | 0, h0, e =>
    rw [p_step0] at e
    split at e
    · cases e
      exact ⟨n, fun z => ⟨(h0 z).1, fun _ => (h0 z).2 (by omega)⟩, h1⟩
    · exact p_dig_ok n (fun z => (h0 z).2 (by omega)) h1 e
  | 1, h0, e =>
    rw [p_step1] at e
    exact p_dig_ok n (fun z => (h0 z).2 (by omega)) h1 e
  | 2, h0, e =>
    rw [p_step2] at e
    split at e
    · cases e
      exact ⟨n, fun z => ⟨(h0 z).1, fun _ => (h0 z).2 (by omega)⟩, h1⟩
    · cases e
  | d + 3, h0, e =>
    have e : (if ch = nI 47 then (if r ≠ 0 ∨ k < 2 then none else some ((0, 1, 0, 0, g, k, N) : QP)) else if ch = nI 59 then (if (if r = 0 then 3 else c) ≤ k then none else some (0, r, k, 0, g, c, N)) else none) = some s' := e
    split at e
    · split at e
      · cases e
      · rename_i z
        cases e
        have := (h0 (by omega)).1
        exact ⟨n, fun z => absurd z (by show ¬ (1 : Nat) = 0; omega), fun _ => by show k = 2 ∨ k = 3; omega⟩
    · split at e
      · by_cases z : (if r = 0 then 3 else c) ≤ k
        · rw [if_pos z] at e
          cases e
        · rw [if_neg z] at e
          cases e
          refine ⟨n, fun y => ?_, h1⟩
          have y' : r = 0 := y
          rw [if_pos y'] at z
          show k ≤ 3 ∧ (0 < 3 → k ≤ 2)
          omega
      · cases e
theorem p_run_okk {t : Nat → Int32} : ∀ (d i : Nat) (s : QP), p_ok s → p_ok (p_run t d i s).2 := by
  intro d
  induction d with
  | zero =>
    intro i s o
    exact o
  | succ d ih =>
    intro i s o
    unfold p_run
    split
    · exact o
    · rename_i s' e
      exact ih (i + 1) s' (p_step_ok o e)
theorem allwf_read (W : allwf A) (hn : A.2.2.2.1 ≤ 60) : allwf (g_read A) := by
  unfold g_read
  split
  · rename_i hx
    have ok := p_run_ok (t := A.2.2.2.2) (A.2.2.2.1 - 0) 0 (0, 0, 0, 0, 0, 0, fun _ _ _ => 0) (by omega) hx
    have o : p_ok (p_all A).2 := p_run_okk _ _ _ ⟨fun _ _ _ => by show -9 ≤ (0 : Int32).toInt ∧ (0 : Int32).toInt ≤ 9; decide, fun _ => ⟨Nat.zero_le _, fun _ => Nat.zero_le _⟩, fun z => absurd rfl z⟩
    have ok2 : (p_all A).2.2.1 = 1 := ok.2.1
    have h3 := o.2.2 (by rw [ok2]; omega)
    refine W.rec ?_ rfl
    generalize (p_all A).2 = s at o h3 ⊢
    obtain ⟨d, r, k, p, g, c, N⟩ := s
    dsimp only at h3 ⊢
    obtain ⟨a1, a2, a3, -⟩ := q_new_wf (c := c) (x := A.1.2.1) h3
    refine ⟨a1, a2, a3, fun x hx => ?_⟩
    show -9 ≤ (p_gains c N x).toInt ∧ (p_gains c N x).toInt ≤ 9
    unfold p_gains
    split
    · exact o.1 _ _ _
    · decide
  · exact W
end allwf
