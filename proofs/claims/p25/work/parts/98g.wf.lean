/-! ===== all states that are kept stay as they can be ===== -/
def allwf (A : QA) : Prop := q_wf A.1 ∧ A.2.1.1 ≤ 6 ∧ (∀ i, i < A.2.1.1 → q_wf (A.2.1.2 i)) ∧ ∀ i s, i < 2 → A.2.2.1 i = some s → q_wf s
section allwf
variable {A : QA}
theorem allwf.rec (W : allwf A) {s : QS} (w : q_wf s) {B : (Nat → Option QS) × (Nat × (Nat → Int32))} (hB : B.1 = A.2.2.1) : allwf (s, q_rec A, B) := by
  obtain ⟨w1, w2, w3, w4⟩ := W
  refine ⟨w, q_recN_le w2, fun i hi => ?_, fun i s hi e => w4 i s hi (by rw [← hB]; exact e)⟩
  show q_wf (q_recH A.2.1.1 A.2.1.2 A.1 i)
  have hi' : i < q_recN A.2.1.1 := hi
  unfold q_recN at hi'
  unfold q_recH
  by_cases e : A.2.1.1 = 6
  · rw [if_pos e] at hi' ⊢
    by_cases e5 : i = 5
    · rw [if_pos e5]
      exact w1
    · rw [if_neg e5]
      exact w3 _ (by omega)
  · rw [if_neg e] at hi' ⊢
    by_cases e5 : i = A.2.1.1
    · rw [if_pos e5]
      exact w1
    · rw [if_neg e5]
      exact w3 _ (by omega)
theorem allwf_begin (W : allwf A) (x : Int32) : allwf (g_begin A x) := by
  unfold g_begin
  split
  · exact W.rec (q_new_wf (by omega)) rfl
  · exact W
theorem q_wf.pts {s : QS} (w : q_wf s) {G : Nat → Int32} (g : ∀ k, k < 12 → -9 ≤ (G k).toInt ∧ (G k).toInt ≤ 9) : q_wf (s.1, s.2.1, G, s.2.2.2.1, s.2.2.2.2) := ⟨w.1, w.2.1, w.2.2.1, g⟩
theorem allwf_points (W : allwf A) (p r q v : Int32) : allwf (g_points A p r q v) := by
  unfold g_points
  split
  · rename_i z
    refine W.rec (W.1.pts (fun k hk => ?_)) rfl
    unfold am_ud
    split
    · exact z.2.2
    · exact W.1.2.2.2 k hk
  · exact W
theorem allwf_weigh (W : allwf A) (r q v : Int32) : allwf (g_weigh A r q v) := by
  unfold g_weigh
  split
  · rename_i z
    obtain ⟨z1, z2, z3⟩ := z
    obtain ⟨jr, rfl, er, -⟩ := q_nI z1.1.1
    obtain ⟨jq, rfl, eq, -⟩ := q_nI z1.2.1
    obtain ⟨jv, rfl, ev, -⟩ := q_nI z2.1
    have vr : q_vI (nI jr) = jr := by unfold q_vI; omega
    have vq : q_vI (nI jq) = jq := by unfold q_vI; omega
    rw [vr, vq] at z3 ⊢
    have h3 := W.1.1
    have hk : A.1.1 * jr + jq < 2 * A.1.1 := by
      have : jr = 0 ∨ jr = 1 := by omega
      rcases this with rfl | rfl <;> omega
    have hk6 : A.1.1 * jr + jq < 6 := by omega
    generalize A.1.1 * jr + jq = k0 at z3 hk hk6 ⊢
    obtain ⟨w1, ⟨F, w2, w3⟩, w4, w5⟩ := W.1
    refine W.rec (s := (A.1.1, A.1.2.1, A.1.2.2.1, am_ud A.1.2.2.2.1 k0 (nI jv), A.1.2.2.2.2)) ⟨w1, ⟨am_ud F k0 jv, fun k hk => ?_, ?_⟩, w4, w5⟩ rfl
    · show am_ud A.1.2.2.2.1 k0 (nI jv) k = nI (am_ud F k0 jv k) ∧ am_ud F k0 jv k ≤ 999 ∧ (2 * A.1.1 ≤ k → am_ud F k0 jv k = 0)
      unfold am_ud
      by_cases e : k = k0
      · rw [if_pos e, if_pos e]
        exact ⟨rfl, by omega, fun z => by omega⟩
      · rw [if_neg e, if_neg e]
        exact w2 k hk
    · have u := q_ns_ud (F := F) (v := jv) hk6
      have g := q_ns_ge (F := F) hk6
      rcases Nat.eq_zero_or_pos (q_ns 6 (am_ud F k0 jv)) with e | e
      · exfalso
        apply z3
        have hj : jv = 0 := by omega
        rw [q_ns_sum (F := F) (fun k hk => (w2 k (by omega)).1), q_ns_6 h3 (fun k hk z => (w2 k hk).2.2 z), (w2 k0 hk6).1, hj, show q_ns 6 F = F k0 by omega]
        rw [Int32.sub_self]
        rfl
      · exact e
  · exact W
theorem allwf_forget (W : allwf A) (x : Int32) : allwf (g_forget A x) := by
  unfold g_forget
  split
  · exact W.rec (s := (A.1.1, x, A.1.2.2.1, A.1.2.2.2.1, fun _ => 0)) ⟨W.1.1, W.1.2.1, ⟨fun _ => 0, fun k hk => ⟨rfl, fun _ => rfl⟩, by decide⟩, W.1.2.2.2⟩ rfl
  · exact W
theorem allwf_roll (W : allwf A) (x : Int32) : allwf (g_roll A x) := by
  unfold g_roll
  split
  · rename_i z
    obtain ⟨h1, h2⟩ := z
    refine W.rec ?_ rfl
    obtain ⟨j, rfl, ej, -⟩ := q_nI (show 0 ≤ x.toInt by omega)
    have ev : q_vI (nI j) = j := by unfold q_vI; omega
    rw [ev]
    obtain ⟨n, n1, n2, n3⟩ := W.1.sumF
    rw [n2, nI_add, show (1000 : Int32) = nI 1000 from rfl, x_lt (by omega) (by omega)] at h2
    exact q_thrs_wf j (A.1, 0) W.1 (q_room_of W.1 n1 (by omega) (by omega))
  · exact W
theorem allwf_undo (W : allwf A) : allwf (g_undo A) := by
  unfold g_undo
  split
  · exact W
  · rename_i z
    have := W.2.1
    exact ⟨W.2.2.1 _ (by omega), (by show A.2.1.1 - 1 ≤ 6; omega), fun i hi => W.2.2.1 i (by have : i < A.2.1.1 - 1 := hi; omega), W.2.2.2⟩
theorem allwf_mixes (W : allwf A) (L : z_list A.1.1 (q_g A.1) (q_N A.1, q_E A.1)) {i : Nat} (hi : i < q_N A.1) {x y : Int32} (ok : q_mixok x y) : allwf (g_mixes A i x y) := by
  unfold g_mixes
  by_cases e : ∃ k, k < 2 * A.1.1 ∧ (999 : Int64) < q_mixd A.1 i x y k
  · rw [z_pif_pos e]
    exact W
  · rw [z_pif_neg e]
    exact W.rec (q_mixw_wf W.1 L hi ok e) rfl
theorem allwf_take (W : allwf A) (L : z_list A.1.1 (q_g A.1) (q_N A.1, q_E A.1)) (x : Int32) : allwf (g_take A x) := by
  unfold g_take
  split
  · rename_i z
    refine allwf_mixes W L ?_ ⟨by decide, by decide, by decide⟩
    obtain ⟨j, rfl, ej, -⟩ := q_nI z.1
    have ev : q_vI (nI j) = j := by unfold q_vI; omega
    rw [ev]
    omega
  · exact W
theorem allwf_mix (W : allwf A) (L : z_list A.1.1 (q_g A.1) (q_N A.1, q_E A.1)) (n x y : Int32) : allwf (g_mix A n x y) := by
  unfold g_mix
  split
  · rename_i z
    split
    · rename_i ok
      refine allwf_mixes W L ?_ ok
      obtain ⟨j, rfl, ej, -⟩ := q_nI z.1
      have ev : q_vI (nI j) = j := by unfold q_vI; omega
      rw [ev]
      omega
    · exact W
  · exact W
end allwf
