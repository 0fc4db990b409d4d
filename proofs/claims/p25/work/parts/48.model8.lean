/-! ===== the Model: throwing, saving, going back ===== -/
def q_room (s : QS) (n : Nat) : Prop := ∃ F : Nat → Nat, (∀ k, k < 6 → s.2.2.2.2 k = nI (F k) ∧ (2 * s.1 ≤ k → F k = 0)) ∧ q_ns 6 F + n ≤ 1000
theorem q_room_of {s : QS} (w : q_wf s) {n j : Nat} (e : q_sum 6 s.2.2.2.2 = nI n) (hn : n < 2147483648) (h : n + j ≤ 1000) : q_room s j := by
  obtain ⟨F, f1, f2⟩ := w.2.2.1
  refine ⟨F, f1, ?_⟩
  rw [q_ns_sum (fun k hk => (f1 k hk).1)] at e
  have := (nI_eq (show q_ns 6 F < 2 ^ 31 by omega) (by omega)).1 e
  omega
theorem q_thS_room {s : QS} {n : Nat} (w : q_wf s) (r : q_room s (n + 1)) : q_wf (q_thS s (q_kk s)) ∧ q_room (q_thS s (q_kk s)) n := q_thS_wf w (q_kk_lt w) r
theorem q_thrs_wf : ∀ (n : Nat) (x : QS × Nat), q_wf x.1 → q_room x.1 n → q_wf (q_thrs n x).1
  | 0, x, w, _ => w
  | n + 1, x, w, r => by
    have := q_thS_room w r
    exact q_thrs_wf n (q_thr x.1) this.1 this.2
noncomputable def f_roll (A : QA) (x : Int32) : Int32 := if 1 ≤ x.toInt ∧ x.toInt ≤ 100 then (if 1000 < q_sum (2 * A.1.1) A.1.2.2.2.2 + x then -4 else nI (q_thrs (q_vI x) (A.1, 0)).2) else -2
noncomputable def g_roll (A : QA) (x : Int32) : QA := if (1 ≤ x.toInt ∧ x.toInt ≤ 100) ∧ ¬ 1000 < q_sum (2 * A.1.1) A.1.2.2.2.2 + x then ((q_thrs (q_vI x) (A.1, 0)).1, q_rec A, A.2.2) else A
section model8
variable {h : AH} {A : QA}
def f_undo (A : QA) : Int32 := if A.2.1.1 = 0 then -5 else nI (A.2.1.1 - 1)
def g_undo (A : QA) : QA := if A.2.1.1 = 0 then A else (A.2.1.2 (A.2.1.1 - 1), (A.2.1.1 - 1, A.2.1.2), A.2.2)
end model8
