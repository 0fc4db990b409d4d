/-! ===== the law's own other names: by 0 to 11, rows exchanged, columns turned ===== -/
def w_r (y a : Nat) : Nat := if y % 2 = 0 then a else 1 - a
def w_c (y c b : Nat) : Nat := if y < 6 then (b + y / 2) % c else c - 1 - (b + y / 2) % c
def w_k (y c k : Nat) : Nat := c * w_r y (k / c) + w_c y c (k % c)
def w_t (y c q : Nat) : Bool × Nat × Nat := (decide (q_pl q = 0), q_td c q, q_ot c q)
def w_t' (y c q : Nat) : Bool × Nat × Nat := if q_pl q = 0 then (true, w_r y (q_td c q), w_r y (q_ot c q)) else (false, w_c y c (q_td c q), w_c y c (q_ot c q))
def w_q (y c q : Nat) : Nat := ((List.range 8).find? (fun q' => decide (w_t y c q' = w_t' y c q))).getD 0
def w_ki (y c k : Nat) : Nat := ((List.range 6).find? (fun k' => decide (w_k y c k' = k))).getD 0
def w_qi (y c q : Nat) : Nat := ((List.range 8).find? (fun q' => decide (q' < q_nq c ∧ w_q y c q' = q))).getD 0
/-- the cell that is got by not doing as told -/
def q_oc (c q k : Nat) : Nat := if q_pl q = 0 then c * q_ot c q + q_mv c k 1 else c * q_mv c k 0 + q_ot c q
set_option maxRecDepth 100000 in
theorem w_f2a : ∀ y, y < 12 → ∀ k, k < 4 → w_k y 2 k < 4 ∧ w_ki y 2 (w_k y 2 k) = k := by decide +kernel
set_option maxRecDepth 100000 in
theorem w_f2b : ∀ y, y < 12 → ∀ k, k < 4 → w_ki y 2 k < 4 ∧ w_k y 2 (w_ki y 2 k) = k := by decide +kernel
set_option maxRecDepth 100000 in
theorem w_f2c : ∀ y, y < 12 → ∀ q, q < 4 → w_q y 2 q < 4 ∧ w_qi y 2 (w_q y 2 q) = q := by decide +kernel
set_option maxRecDepth 100000 in
theorem w_f2d : ∀ y, y < 12 → ∀ q, q < 4 → w_qi y 2 q < 4 ∧ w_q y 2 (w_qi y 2 q) = q := by decide +kernel
set_option maxRecDepth 100000 in
theorem w_f2e : ∀ y, y < 12 → ∀ q, q < 4 → q_pl (w_q y 2 q) = q_pl q ∧ ∀ k, k < 4 → (q_mv 2 (w_k y 2 k) (q_pl q) = q_td 2 (w_q y 2 q) ↔ q_mv 2 k (q_pl q) = q_td 2 q) ∧ q_oc 2 (w_q y 2 q) (w_k y 2 k) = w_k y 2 (q_oc 2 q k) := by decide +kernel
set_option maxRecDepth 100000 in
theorem w_f2f : ∀ y, y < 12 → ∀ a, a < 2 → w_r y a < 2 ∧ ∀ b, b < 2 → w_c y 2 b < 2 ∧ w_k y 2 (2 * a + b) = 2 * w_r y a + w_c y 2 b := by decide +kernel
set_option maxRecDepth 100000 in
theorem w_f2g : ∀ y, y < 12 → ∀ k, k < 4 → q_mv 2 (w_k y 2 k) 0 = w_r y (q_mv 2 k 0) ∧ q_mv 2 (w_k y 2 k) 1 = w_c y 2 (q_mv 2 k 1) := by decide +kernel
set_option maxRecDepth 100000 in
theorem w_f3a : ∀ y, y < 12 → ∀ k, k < 6 → w_k y 3 k < 6 ∧ w_ki y 3 (w_k y 3 k) = k := by decide +kernel
set_option maxRecDepth 100000 in
theorem w_f3b : ∀ y, y < 12 → ∀ k, k < 6 → w_ki y 3 k < 6 ∧ w_k y 3 (w_ki y 3 k) = k := by decide +kernel
set_option maxRecDepth 100000 in
theorem w_f3c : ∀ y, y < 12 → ∀ q, q < 8 → w_q y 3 q < 8 ∧ w_qi y 3 (w_q y 3 q) = q := by decide +kernel
set_option maxRecDepth 100000 in
theorem w_f3d : ∀ y, y < 12 → ∀ q, q < 8 → w_qi y 3 q < 8 ∧ w_q y 3 (w_qi y 3 q) = q := by decide +kernel
set_option maxRecDepth 100000 in
theorem w_f3e : ∀ y, y < 12 → ∀ q, q < 8 → q_pl (w_q y 3 q) = q_pl q ∧ ∀ k, k < 6 → (q_mv 3 (w_k y 3 k) (q_pl q) = q_td 3 (w_q y 3 q) ↔ q_mv 3 k (q_pl q) = q_td 3 q) ∧ q_oc 3 (w_q y 3 q) (w_k y 3 k) = w_k y 3 (q_oc 3 q k) := by decide +kernel
set_option maxRecDepth 100000 in
theorem w_f3f : ∀ y, y < 12 → ∀ a, a < 2 → w_r y a < 2 ∧ ∀ b, b < 3 → w_c y 3 b < 3 ∧ w_k y 3 (3 * a + b) = 3 * w_r y a + w_c y 3 b := by decide +kernel
set_option maxRecDepth 100000 in
theorem w_f3g : ∀ y, y < 12 → ∀ k, k < 6 → q_mv 3 (w_k y 3 k) 0 = w_r y (q_mv 3 k 0) ∧ q_mv 3 (w_k y 3 k) 1 = w_c y 3 (q_mv 3 k 1) := by decide +kernel
theorem w_fin {y c : Nat} (hy : y < 12) (h3 : c = 2 ∨ c = 3) : (∀ k, k < 2 * c → w_k y c k < 2 * c ∧ w_ki y c (w_k y c k) = k) ∧ (∀ k, k < 2 * c → w_ki y c k < 2 * c ∧ w_k y c (w_ki y c k) = k) ∧ (∀ q, q < q_nq c → w_q y c q < q_nq c ∧ w_qi y c (w_q y c q) = q) ∧ (∀ q, q < q_nq c → w_qi y c q < q_nq c ∧ w_q y c (w_qi y c q) = q) := by
  rcases h3 with rfl | rfl
  · exact ⟨w_f2a y hy, w_f2b y hy, w_f2c y hy, w_f2d y hy⟩
  · exact ⟨w_f3a y hy, w_f3b y hy, w_f3c y hy, w_f3d y hy⟩
theorem w_fin2 {y c : Nat} (hy : y < 12) (h3 : c = 2 ∨ c = 3) : ∀ q, q < q_nq c → q_pl (w_q y c q) = q_pl q ∧ ∀ k, k < 2 * c → (q_mv c (w_k y c k) (q_pl q) = q_td c (w_q y c q) ↔ q_mv c k (q_pl q) = q_td c q) ∧ q_oc c (w_q y c q) (w_k y c k) = w_k y c (q_oc c q k) := by
  rcases h3 with rfl | rfl
  · exact w_f2e y hy
  · exact w_f3e y hy
theorem w_fin3 {y c : Nat} (hy : y < 12) (h3 : c = 2 ∨ c = 3) : (∀ a, a < 2 → w_r y a < 2 ∧ ∀ b, b < c → w_c y c b < c ∧ w_k y c (c * a + b) = c * w_r y a + w_c y c b) ∧ ∀ k, k < 2 * c → q_mv c (w_k y c k) 0 = w_r y (q_mv c k 0) ∧ q_mv c (w_k y c k) 1 = w_c y c (q_mv c k 1) := by
  rcases h3 with rfl | rfl
  · exact ⟨w_f2f y hy, w_f2g y hy⟩
  · exact ⟨w_f3f y hy, w_f3g y hy⟩
section names
variable {y c : Nat} {g g' : Nat → Nat → Int32}
theorem w_G (hy : y < 12) (h3 : c = 2 ∨ c = 3) (hg : ∀ p, p < 2 → ∀ k, k < 2 * c → g' p (w_k y c k) = g p k) : wG c g g' (w_k y c) (w_ki y c) (w_q y c) (w_qi y c) := by
  obtain ⟨a1, a2, a3, a4⟩ := w_fin hy h3
  refine ⟨a1, a2, a3, a4, fun q hq k hk => ?_, hg⟩
  obtain ⟨b1, b2⟩ := w_fin2 hy h3 q hq
  obtain ⟨b3, b4⟩ := b2 k hk
  have hoc := q_oc_lt h3 hq hk
  unfold q_oc at b4
  unfold q_ls
  rw [b1] at b4 ⊢
  rw [b4]
  by_cases e : q_mv c k (q_pl q) = q_td c q
  · rw [if_pos e, if_pos (b3.2 e), hg _ (q_pl_lt q) k hk, hg _ (q_pl_lt q) _ hoc]
  · rw [if_neg e, if_neg (fun z => e (b3.1 z))]
end names
/-- one state is the other by other names -/
def wS (y : Nat) (s t : QS) : Prop := t.1 = s.1 ∧ (∀ p, p < 2 → ∀ k, k < 2 * s.1 → q_g t p (w_k y s.1 k) = q_g s p k) ∧ (∀ k, k < 2 * s.1 → t.2.2.2.1 (w_k y s.1 k) = s.2.2.2.1 k) ∧ ∀ k, k < 2 * s.1 → t.2.2.2.2 (w_k y s.1 k) = s.2.2.2.2 k
section ws
variable {y : Nat} {s t : QS}
theorem wS.G (S : wS y s t) (hy : y < 12) (h3 : s.1 = 2 ∨ s.1 = 3) : wG s.1 (q_g s) (q_g t) (w_k y s.1) (w_ki y s.1) (w_q y s.1) (w_qi y s.1) := w_G hy h3 S.2.1
theorem wS.lf (S : wS y s t) (hy : y < 12) (h3 : s.1 = 2 ∨ s.1 = 3) {q : Nat} (hq : q < q_nq s.1) : q_lf s.1 (q_g t) t.2.2.2.1 (w_q y s.1 q) = q_lf s.1 (q_g s) s.2.2.2.1 q := by
  have G := S.G hy h3
  unfold q_lf
  rw [← q_sum_perm G.1 (fun k => t.2.2.2.1 k * q_ls s.1 (q_g t) (w_q y s.1 q) k)]
  exact q_sum_congr (fun k hk => by rw [S.2.2.1 k hk, G.2.2.2.2.1 q hq k hk])
theorem wS.cnt (S : wS y s t) (hy : y < 12) (h3 : s.1 = 2 ∨ s.1 = 3) : q_cnt (q_nq s.1) (fun q => q_lf s.1 (q_g t) t.2.2.2.1 q < 0) = q_cnt (q_nq s.1) (fun q => q_lf s.1 (q_g s) s.2.2.2.1 q < 0) := by
  have G := S.G hy h3
  rw [← q_cnt_perm G.2.2.1 (fun q => q_lf s.1 (q_g t) t.2.2.2.1 q < 0)]
  exact q_cnt_congr (fun q hq => by rw [S.lf hy h3 hq])
theorem wS.sumW (S : wS y s t) (hy : y < 12) (h3 : s.1 = 2 ∨ s.1 = 3) : q_sum (2 * s.1) t.2.2.2.1 = q_sum (2 * s.1) s.2.2.2.1 := by
  rw [← q_sum_perm (S.G hy h3).1 t.2.2.2.1]
  exact q_sum_congr (fun k hk => S.2.2.1 k hk)
theorem wS.gb (S : wS y s t) {p k : Nat} (hp : p < 3) (hk : k < 2 * s.1) : q_gb (q_g t) p (w_k y s.1 k) = q_gb (q_g s) p k := by
  unfold q_gb
  by_cases e : p = 2
  · rw [if_pos e, if_pos e, S.2.1 0 (by omega) k hk, S.2.1 1 (by omega) k hk]
  · rw [if_neg e, if_neg e, S.2.1 p (by omega) k hk]
theorem wS.pts (S : wS y s t) (hy : y < 12) (h3 : s.1 = 2 ∨ s.1 = 3) {p : Nat} (hp : p < 3) : (q_sum (2 * s.1) fun k => t.2.2.2.1 k * q_gb (q_g t) p k) = q_sum (2 * s.1) fun k => s.2.2.2.1 k * q_gb (q_g s) p k := by
  rw [← q_sum_perm (S.G hy h3).1 (fun k => t.2.2.2.1 k * q_gb (q_g t) p k)]
  exact q_sum_congr (fun k hk => by rw [S.2.2.1 k hk, S.gb hp hk])
theorem wS.sure (S : wS y s t) (hy : y < 12) (h3 : s.1 = 2 ∨ s.1 = 3) {k : Nat} (hk : k < 2 * s.1) : q_sure s.1 (q_g t) (w_k y s.1 k) = q_sure s.1 (q_g s) k := by
  have G := S.G hy h3
  unfold q_sure
  have : (∀ q, q < q_nq s.1 → ¬ q_ls s.1 (q_g t) q (w_k y s.1 k) < 0) = (∀ q, q < q_nq s.1 → ¬ q_ls s.1 (q_g s) q k < 0) := propext ⟨fun z q hq => by
    rw [← G.2.2.2.2.1 q hq k hk]
    exact z _ (G.2.2.1 q hq).1, fun z q hq => by
    have := z _ (G.2.2.2.1 q hq).1
    rw [← G.2.2.2.2.1 _ (G.2.2.2.1 q hq).1 k hk, (G.2.2.2.1 q hq).2] at this
    exact this⟩
  simp only [this]
end ws
