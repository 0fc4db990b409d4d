/-! ===== THE SMALL MACHINE'S MEMORY IN THE MACHINE'S OWN: cells at addresses μ, the script's array apart ===== -/
def sm_GT : List Cond := lw_tbl.filter goodWord
def sm_isN : Cond → Bool
  | .methodLinkNest .. => true
  | _ => false
def sm_NT : List Cond := lw_tbl.filter sm_isN
def sm_TY (dA : Nat → ClassId) : List (ClassId × FieldType) := [(dA 5, .int), (dA 6, .long), (dA 7, .char), (dA 8, .object RX2)]
def sm_nf (c : Nat) : Nat := match c with
  | 0 => 11
  | 1 => 9
  | 2 => 5
  | 3 => 6
  | _ => 21
def sm_tyf (c k : Nat) : FieldType := match c with
  | 0 => tyX0 k
  | 1 => tyX1 k
  | 2 => tyX2 k
  | 3 => tyX3 k
  | _ => tyX4 k
def sm_v (μ : Nat → Nat) : Value → Value
  | .ref a => .ref (μ a)
  | v => v
/-- a reference is to a cell that there is (and no value is a double) -/
def sm_wv (n : Nat) (v : Value) : Prop := ∀ a, (v = .ref a ∨ ∃ d, v = .double d) → a < n
theorem sm_wv_ph {n : Nat} : sm_wv n am_ph := fun _ h => by rcases h with h | ⟨d, h⟩ <;> cases h
def sm_fv (μ : Nat → Nat) (h : AH) (c a k : Nat) : Value := if sm_ft c k = 1 then va_rf ((am_R h a k).map μ) else .int (am_I h a k)
def sm_E (dA : Nat → ClassId) (μ : Nat → Nat) (h : AH) (a : Nat) : va_E :=
  if am_kd h a < 5 then .inr (am_kd h a, (List.range (am_ln h a)).map (sm_fv μ h (am_kd h a) a))
  else .inl (dA (am_kd h a), am_ln h a, if am_kd h a = 6 then .inr (.inl (am_J h a)) else if am_kd h a = 8 then .inr (.inr (.inr (.inr fun j => (am_R h a j).map μ))) else .inl (am_I h a))
def sm_wl (dA : Nat → ClassId) (μ : Nat → Nat) (h : AH) : va_W := (List.range (h.1.length - 1)).map fun i => (μ (i + 1), sm_E dA μ h (i + 1))
def sm_sz (h : AH) : Nat := (h.1.map fun t => t.2).sum
def sm_WF (L : Nat) (xs : Nat → Int32) (h : AH) : Prop := h.1[0]? = some (9, L) ∧ (∀ j, am_I h 0 j = xs j) ∧ (∀ a, 0 < a → a < h.1.length → am_kd h a < 9 ∧ (am_kd h a < 5 → am_ln h a = sm_nf (am_kd h a))) ∧ ∀ a k c, am_R h a k = some c → c < h.1.length
def sm_R (D : va_G) (dA : Nat → ClassId) (base b L : Nat) (xs : Nat → Int32) (μ : Nat → Nat) (h : AH) (H : Heap) : Prop := va_P D vwCl (sm_wl dA μ h) H ∧ va_D (fun q => base ≤ q) (sm_wl dA μ h) ∧ μ 0 = b ∧ sm_WF L xs h
def sm_L (μ : Nat → Nat) (n nL : Nat) (ls : List Value) (A : Array Slot) : Prop := A.size = nL ∧ lv_wf A ∧ ls.length = nL ∧ (∀ (i : Nat) (v : Value), ls[i]? = some v → v ≠ am_ph → A[i]? = some (.val (sm_v μ v))) ∧ ∀ v ∈ ls, sm_wv n v
theorem sm_wv_i {n : Nat} {x : Int32} : sm_wv n (.int x) := fun _ h => by rcases h with h | ⟨d, h⟩ <;> cases h
theorem sm_wv_l {n : Nat} {x : Int64} : sm_wv n (.long x) := fun _ h => by rcases h with h | ⟨d, h⟩ <;> cases h
theorem sm_wv_n {n : Nat} : sm_wv n .null := fun _ h => by rcases h with h | ⟨d, h⟩ <;> cases h
theorem sm_wv_r {n a : Nat} (h : a < n) : sm_wv n (.ref a) := fun _ e => by
  rcases e with e | ⟨d, e⟩
  · cases e; exact h
  · cases e
theorem sm_wt {n : Nat} {a : Value} {r : List Value} (h : ∀ v ∈ a :: r, sm_wv n v) : ∀ v ∈ r, sm_wv n v := fun v hv => h v (List.mem_cons_of_mem _ hv)
theorem sm_wc {n : Nat} {a : Value} {r : List Value} (ha : sm_wv n a) (h : ∀ v ∈ r, sm_wv n v) : ∀ v ∈ a :: r, sm_wv n v := fun v hv => by
  rcases List.mem_cons.mp hv with rfl | hv
  · exact ha
  · exact h v hv
theorem sm_wm {n k : Nat} (hk : n ≤ k) {r : List Value} (h : ∀ v ∈ r, sm_wv n v) : ∀ v ∈ r, sm_wv k v := fun v hv a e => Nat.lt_of_lt_of_le (h v hv a e) hk
theorem sm_wh {n a : Nat} {r : List Value} (h : ∀ v ∈ Value.ref a :: r, sm_wv n v) : a < n := h _ List.mem_cons_self a (Or.inl rfl)
theorem sm_cat (μ : Nat → Nat) (v : Value) : (sm_v μ v).category = v.category := by cases v <;> rfl
theorem sm_v_ph {μ : Nat → Nat} {v : Value} (h : v ≠ am_ph) : sm_v μ v ≠ am_ph := by
  cases v <;> simp_all [sm_v, am_ph]
theorem sm_kd_lt {h : AH} {a k : Nat} (hk : am_kd h a = k) (h9 : k < 99) : a < h.1.length := by
  rcases Nat.lt_or_ge a h.1.length with q | q
  · exact q
  · unfold am_kd at hk
    rw [List.getD_eq_getElem?_getD, List.getElem?_eq_none q] at hk
    simp at hk
    omega
theorem sm_WF.pos {L : Nat} {xs : Nat → Int32} {h : AH} (w : sm_WF L xs h) {a k : Nat} (hk : am_kd h a = k) (h9 : k < 9) : 0 < a := by
  rcases Nat.eq_zero_or_pos a with q | q
  · subst q
    have := w.1
    unfold am_kd at hk
    rw [List.getD_eq_getElem?_getD, this] at hk
    simp at hk
    omega
  · exact q
theorem sm_WF.one {L : Nat} {xs : Nat → Int32} {h : AH} (w : sm_WF L xs h) : 1 ≤ h.1.length := by
  rcases Nat.eq_zero_or_pos h.1.length with q | q
  · have := w.1
    rw [List.getElem?_eq_none (by omega)] at this
    cases this
  · exact q
theorem sm_wl_get {dA : Nat → ClassId} {μ : Nat → Nat} {h : AH} {a : Nat} (h0 : 0 < a) (h1 : a < h.1.length) : (sm_wl dA μ h)[a - 1]? = some (μ a, sm_E dA μ h a) := by
  unfold sm_wl
  rw [List.getElem?_map, List.getElem?_range (by omega)]
  simp [Nat.sub_add_cancel h0]
theorem sm_E_same {dA : Nat → ClassId} {μ μ' : Nat → Nat} {h h' : AH} {a : Nat} (hk : am_kd h' a = am_kd h a) (hn : am_ln h' a = am_ln h a) (hI : am_I h' a = am_I h a) (hJ : am_J h' a = am_J h a) (hR : ∀ k, (am_R h' a k).map μ' = (am_R h a k).map μ) : sm_E dA μ' h' a = sm_E dA μ h a := by
  have e : sm_fv μ' h' (am_kd h a) a = sm_fv μ h (am_kd h a) a := by
    funext k
    unfold sm_fv
    rw [hI, hR]
  unfold sm_E
  rw [hk, hn, hI, hJ, e]
  simp only [hR]
theorem sm_wl_set {dA : Nat → ClassId} {μ : Nat → Nat} {h h' : AH} {a : Nat} (h0 : 0 < a) (h1 : a < h.1.length) (ht : h'.1 = h.1) (hs : ∀ c, c ≠ a → am_I h' c = am_I h c ∧ am_J h' c = am_J h c ∧ am_R h' c = am_R h c) : sm_wl dA μ h' = (sm_wl dA μ h).set (a - 1) (μ a, sm_E dA μ h' a) := by
  apply List.ext_getElem?
  intro i
  rw [List.getElem?_set]
  unfold sm_wl
  rw [ht]
  simp only [List.getElem?_map, List.length_map, List.length_range]
  by_cases hi : a - 1 = i
  · subst hi
    rw [if_pos rfl, List.getElem?_range (by omega), if_pos (by omega)]
    simp [Nat.sub_add_cancel h0]
  · rw [if_neg hi]
    by_cases hl : i < h.1.length - 1
    · rw [List.getElem?_range hl]
      simp only [Option.map_some]
      obtain ⟨e1, e2, e3⟩ := hs (i + 1) (by omega)
      rw [sm_E_same (by unfold am_kd; rw [ht]) (by unfold am_ln; rw [ht]) e1 e2 (fun k => by rw [e3])]
    · rw [List.getElem?_eq_none (by simp; omega)]
      rfl
theorem sm_kd_nw {h : AH} {k n a : Nat} (ha : a < h.1.length) : am_kd (am_nw h k n) a = am_kd h a ∧ am_ln (am_nw h k n) a = am_ln h a := by
  unfold am_kd am_ln am_nw
  simp only [List.getD_eq_getElem?_getD]
  rw [List.getElem?_append_left ha]
  exact ⟨rfl, rfl⟩
theorem sm_kd_nw0 {h : AH} {k n : Nat} : am_kd (am_nw h k n) h.1.length = k ∧ am_ln (am_nw h k n) h.1.length = n := by
  unfold am_kd am_ln am_nw
  simp only [List.getD_eq_getElem?_getD]
  rw [List.getElem?_append_right (Nat.le_refl _)]
  simp
theorem am_ud_ne {α : Type} {f : Nat → α} {k j : Nat} {v : α} (h : j ≠ k) : am_ud f k v j = f j := by simp [am_ud, h]
theorem am_ud_eq {α : Type} {f : Nat → α} {k : Nat} {v : α} : am_ud f k v k = v := by simp [am_ud]
theorem sm_wl_nw {dA : Nat → ClassId} {μ : Nat → Nat} {h : AH} {k n q : Nat} (h1 : 1 ≤ h.1.length) (hr : ∀ a k c, am_R h a k = some c → c < h.1.length) : sm_wl dA (am_ud μ h.1.length q) (am_nw h k n) = sm_wl dA μ h ++ [(q, sm_E dA (am_ud μ h.1.length q) (am_nw h k n) h.1.length)] := by
  have hl : (am_nw h k n).1.length = h.1.length + 1 := by simp [am_nw]
  unfold sm_wl
  rw [hl, show h.1.length + 1 - 1 = (h.1.length - 1) + 1 by omega, List.range_succ, List.map_append]
  congr 1
  · apply List.map_congr_left
    intro i hi
    have hi := List.mem_range.mp hi
    have hne : i + 1 ≠ h.1.length := by omega
    obtain ⟨e1, e2⟩ := sm_kd_nw (h := h) (k := k) (n := n) (a := i + 1) (by omega)
    rw [am_ud_ne hne, sm_E_same (h := h) (μ := μ) e1 e2 (am_ud_ne hne) (am_ud_ne hne)]
    intro j
    rw [show am_R (am_nw h k n) (i + 1) = am_R h (i + 1) from am_ud_ne hne]
    cases hc : am_R h (i + 1) j with
    | none => rfl
    | some c => simp [am_ud, Nat.ne_of_lt (hr _ _ _ hc)]
  · simp only [List.map_cons, List.map_nil]
    rw [show h.1.length - 1 + 1 = h.1.length by omega, am_ud_eq]
theorem sm_sz_nw (h : AH) (k n : Nat) : sm_sz (am_nw h k n) = sm_sz h + n := by simp [sm_sz, am_nw]
theorem sm_ln_nw (h : AH) (k n : Nat) : (am_nw h k n).1.length = h.1.length + 1 := by simp [am_nw]
theorem sm_WF.nw {L : Nat} {xs : Nat → Int32} {h : AH} {k n : Nat} (w : sm_WF L xs h) (hk : k < 9) (hn : k < 5 → n = sm_nf k) : sm_WF L xs (am_nw h k n) := by
  have h1 := w.one
  obtain ⟨w1, w2, w3, w4⟩ := w
  refine ⟨?_, fun j => ?_, fun a ha hl => ?_, fun a j c hc => ?_⟩
  · show (h.1 ++ [(k, n)])[0]? = _
    rw [List.getElem?_append_left (by omega)]
    exact w1
  · show am_ud (am_I h) h.1.length (fun _ => 0) 0 j = xs j
    rw [am_ud_ne (by omega)]
    exact w2 j
  · rw [sm_ln_nw] at hl
    by_cases he : a = h.1.length
    · subst he
      rw [sm_kd_nw0.1, sm_kd_nw0.2]
      exact ⟨hk, hn⟩
    · obtain ⟨e1, e2⟩ := sm_kd_nw (h := h) (k := k) (n := n) (a := a) (by omega)
      rw [e1, e2]
      exact w3 a ha (by omega)
  · rw [sm_ln_nw]
    by_cases he : a = h.1.length
    · subst he
      rw [show am_R (am_nw h k n) h.1.length = fun _ => none from am_ud_eq] at hc
      cases hc
    · rw [show am_R (am_nw h k n) a = am_R h a from am_ud_ne he] at hc
      exact Nat.lt_succ_of_lt (w4 a j c hc)
/-- the tables' words of the five classes -/
theorem sm_cls {ci : Nat} {r : vw_C} (h : vwCl[ci]? = some r) : ci < 5 ∧ r.1 = sm_cn ci ∧ r.2.2 = sm_nf ci ∧ (∀ w ∈ u_ws r.1 r.2.1 r.2.2, w ∈ sm_GT) ∧ (∀ k, k < r.2.2 → parseFieldDescriptor (r.2.1 k).2.2.1 = some (sm_tyf ci k)) ∧ (∀ a, a < r.2.2 → ∀ b, b < r.2.2 → a ≠ b → (r.2.1 a).2.1 ≠ (r.2.1 b).2.1) ∧ Cond.instantiable r.1 r.2.2 ∈ sm_GT ∧ Cond.initialized r.1 ∈ sm_GT ∧ (∀ k, k < r.2.2 → (sm_ft ci k = 0 → sm_tyf ci k = .int) ∧ (sm_ft ci k = 2 → sm_tyf ci k = .boolean) ∧ (sm_ft ci k = 1 → (∃ n, sm_tyf ci k = .object n) ∨ ∃ t, sm_tyf ci k = .array t) ∧ sm_ft ci k ≤ 2) := by
  have gl : ∀ {C : String} {T : u_T} {N : Nat}, (∀ w ∈ u_ws C T N, w ∈ lw_tbl) → ∀ w ∈ u_ws C T N, w ∈ sm_GT := by
    intro C T N hi w hw
    refine List.mem_filter.mpr ⟨hi w hw, ?_⟩
    obtain ⟨k, -, rfl⟩ := List.mem_map.mp hw
    unfold u_lay
    split <;> rfl
  match ci, h with
  | 0, h =>
    cases h
    exact ⟨by omega, rfl, rfl, gl inX0, tyX0_ok, nmX0, List.mem_filter.mpr ⟨List.mem_of_getElem? (i := 79) (by decide +kernel), rfl⟩, List.mem_filter.mpr ⟨List.mem_of_getElem? (i := 26) (by decide +kernel), rfl⟩, fun k hk => by
      rcases (show k = 0 ∨ k = 1 ∨ k = 2 ∨ k = 3 ∨ k = 4 ∨ k = 5 ∨ k = 6 ∨ k = 7 ∨ k = 8 ∨ k = 9 ∨ k = 10 by simp only at hk; omega) with rfl | rfl | rfl | rfl | rfl | rfl | rfl | rfl | rfl | rfl | rfl <;> simp [sm_ft, sm_fts, sm_tyf, tyX0]⟩
  | 1, h =>
    cases h
    exact ⟨by omega, rfl, rfl, gl inX1, tyX1_ok, nmX1, List.mem_filter.mpr ⟨List.mem_of_getElem? (i := 121) (by decide +kernel), rfl⟩, List.mem_filter.mpr ⟨List.mem_of_getElem? (i := 27) (by decide +kernel), rfl⟩, fun k hk => by
      rcases (show k = 0 ∨ k = 1 ∨ k = 2 ∨ k = 3 ∨ k = 4 ∨ k = 5 ∨ k = 6 ∨ k = 7 ∨ k = 8 by simp only at hk; omega) with rfl | rfl | rfl | rfl | rfl | rfl | rfl | rfl | rfl <;> simp [sm_ft, sm_fts, sm_tyf, tyX1]⟩
  | 2, h =>
    cases h
    exact ⟨by omega, rfl, rfl, gl inX2, tyX2_ok, nmX2, List.mem_filter.mpr ⟨List.mem_of_getElem? (i := 39) (by decide +kernel), rfl⟩, List.mem_filter.mpr ⟨List.mem_of_getElem? (i := 25) (by decide +kernel), rfl⟩, fun k hk => by
      rcases (show k = 0 ∨ k = 1 ∨ k = 2 ∨ k = 3 ∨ k = 4 by simp only at hk; omega) with rfl | rfl | rfl | rfl | rfl <;> simp [sm_ft, sm_fts, sm_tyf, tyX2]⟩
  | 3, h =>
    cases h
    exact ⟨by omega, rfl, rfl, gl inX3, tyX3_ok, nmX3, List.mem_filter.mpr ⟨List.mem_of_getElem? (i := 31) (by decide +kernel), rfl⟩, List.mem_filter.mpr ⟨List.mem_of_getElem? (i := 24) (by decide +kernel), rfl⟩, fun k hk => by
      rcases (show k = 0 ∨ k = 1 ∨ k = 2 ∨ k = 3 ∨ k = 4 ∨ k = 5 by simp only at hk; omega) with rfl | rfl | rfl | rfl | rfl | rfl <;> simp [sm_ft, sm_fts, sm_tyf, tyX3]⟩
  | k + 4, h => simp [vwCl] at h
