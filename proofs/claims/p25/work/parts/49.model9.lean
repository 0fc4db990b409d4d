theorem q_ls_congr {c : Nat} {g g' : Nat → Nat → Int32} {q k : Nat} (h3 : c = 2 ∨ c = 3) (hq : q < q_nq c) (hk : k < 2 * c) (h : ∀ p, p < 2 → ∀ k, k < 6 → g p k = g' p k) : q_ls c g q k = q_ls c g' q k := by
  have h6 : 2 * c ≤ 6 := by rcases h3 with e | e <;> omega
  have := q_oc_lt h3 hq hk
  unfold q_ls
  rw [h _ (q_pl_lt q) k (by omega), h _ (q_pl_lt q) _ (by omega)]
theorem q_lf_congr {c : Nat} {g g' : Nat → Nat → Int32} {w w' : Nat → Int32} {q : Nat} (h3 : c = 2 ∨ c = 3) (hq : q < q_nq c) (h : ∀ p, p < 2 → ∀ k, k < 6 → g p k = g' p k) (hw : ∀ k, k < 6 → w k = w' k) : q_lf c g w q = q_lf c g' w' q := by
  have h6 : 2 * c ≤ 6 := by rcases h3 with e | e <;> omega
  unfold q_lf
  exact q_sum_congr (fun k hk => by rw [q_ls_congr h3 hq hk h, hw k (by omega)])
theorem q_sure_congr {c : Nat} {g g' : Nat → Nat → Int32} {k : Nat} (h3 : c = 2 ∨ c = 3) (hk : k < 2 * c) (h : ∀ p, p < 2 → ∀ k, k < 6 → g p k = g' p k) : q_sure c g k = q_sure c g' k := by
  unfold q_sure
  have : (∀ q, q < q_nq c → ¬ q_ls c g q k < 0) = (∀ q, q < q_nq c → ¬ q_ls c g' q k < 0) := propext ⟨fun z q hq => by rw [← q_ls_congr h3 hq hk h]; exact z q hq, fun z q hq => by rw [q_ls_congr h3 hq hk h]; exact z q hq⟩
  simp only [this]
theorem q_cnt_congr {n : Nat} {p p' : Nat → Prop} [DecidablePred p] [DecidablePred p'] (h : ∀ k, k < n → (p k ↔ p' k)) : q_cnt n p = q_cnt n p' := by
  induction n with
  | zero => rfl
  | succ n ih =>
    rw [q_cnt_s, q_cnt_s, ih (fun k hk => h k (by omega))]
    by_cases e : p n
    · rw [if_pos e, if_pos ((h n (by omega)).1 e)]
    · rw [if_neg e, if_neg (fun z => e ((h n (by omega)).2 z))]
section model9
variable {h : AH} {A : QA}
def f_inequality (A : QA) (x y : Int32) : Int32 := if 0 ≤ x.toInt ∧ x.toInt ≤ (q_nq A.1.1 : Int) - 1 then (if y = nI 0 then nI (q_pl (q_vI x)) else if y = nI 1 then nI (q_td A.1.1 (q_vI x)) else if y = nI 2 then nI (q_ot A.1.1 (q_vI x)) else if y = nI 3 then q_lf A.1.1 (q_g A.1) A.1.2.2.2.1 (q_vI x) + 1000000 else if y = nI 4 then 1000000 - q_lf A.1.1 (q_g A.1) A.1.2.2.2.2 (q_vI x) else -2) else -1
end model9
