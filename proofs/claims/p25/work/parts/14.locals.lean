/-! ===== ONE STEP OF THE SMALL MACHINE IS STEPS OF THE MACHINE ===== -/
def sm_nx (p : Program) (l : Launch) (e : Env) (R : Room) (s : State) (m : MethodId) (args : Array Value) (below : List Frame) (meth : Method) (c : Code) (Q : State → Prop) (P : SP) (D : va_G) (dA : Nat → ClassId) (base b L : Nat) (xs : Nat → Int32) (μ0 : Nat → Nat) (n0 cE sE : Nat) (F : AH) (pc : Nat) (ls st : List Value) (h : AH) : Prop :=
  h.1.length ≤ F.1.length ∧ sm_sz h ≤ sm_sz F ∧ (n0 ≤ h.1.length → ∀ (μ : Nat → Nat) (H : Heap) (locs : List Loc) (cells slots : Nat) (A : Array Slot), sm_R D dA base b L xs μ h H → sm_L μ h.1.length P.2.2.1 ls A → (∀ v ∈ st, sm_wv h.1.length v) → va_S (fun q => base ≤ q) s.heap H locs → (∀ a, a < n0 → μ a = μ0 a) → cells + F.1.length = cE + h.1.length → slots + sm_sz F = sE + sm_sz h → W p l e R s m args below meth c H locs cells slots Q (F0 m pc A (st.map (sm_v μ))))
/-- what stands about a frame: the machine, its code, the tables' words, the script, its room -/
def sm_cx (p : Program) (R : Room) (s : State) (m : MethodId) (args : Array Value) (meth : Method) (c : Code) (P : SP) (Ts : List Cond) (D : va_G) (dA : Nat → ClassId) (base b L : Nat) (xs : Nat → Int32) (cE sE : Nat) : Prop :=
  p.tables.exec = Jvm.exec ∧ c.code = P.2.1 ∧ c.maxLocals = P.2.2.1 ∧ s.vm.findClass P.1.cls = some m.cls ∧ (∀ w ∈ Ts, w.before args s = true) ∧ (∀ w ∈ sm_GT, w ∈ Ts) ∧ (∀ w ∈ sm_NT, va_Nw w s) ∧ va_AO RX2 s ∧ va_K D vwCl (sm_TY dA) s ∧ va_X b L xs s s.heap ∧ b < base ∧ base ≤ s.heap.size ∧ (P.1.name = "<init>" → meth.name = "<init>") ∧ P.2.2.2.2.1 ≤ R.frames ∧ P.2.2.2.2.2.1 ≤ R.locals ∧ cE ≤ R.cells ∧ sE ≤ R.slots
section inv
variable {st : List Value}
theorem am_i1_ex {f : Int32 → List Value → Prop} (h : am_i1 False f st) : ∃ x r, st = .int x :: r ∧ f x r := by
  unfold am_i1 at h
  split at h
  · exact ⟨_, _, rfl, h⟩
  · cases h
theorem am_i2_ex {f : Int32 → Int32 → List Value → Prop} (h : am_i2 False f st) : ∃ x y r, st = .int y :: .int x :: r ∧ f x y r := by
  unfold am_i2 at h
  split at h
  · exact ⟨_, _, _, rfl, h⟩
  · cases h
theorem am_l1_ex {f : Int64 → List Value → Prop} (h : am_l1 False f st) : ∃ x r, st = .long x :: r ∧ f x r := by
  unfold am_l1 at h
  split at h
  · exact ⟨_, _, rfl, h⟩
  · cases h
theorem am_l2_ex {f : Int64 → Int64 → List Value → Prop} (h : am_l2 False f st) : ∃ x y r, st = .long y :: .long x :: r ∧ f x y r := by
  unfold am_l2 at h
  split at h
  · exact ⟨_, _, _, rfl, h⟩
  · cases h
theorem am_li_ex {f : Int64 → Int32 → List Value → Prop} (h : am_li False f st) : ∃ x y r, st = .int y :: .long x :: r ∧ f x y r := by
  unfold am_li at h
  split at h
  · exact ⟨_, _, _, rfl, h⟩
  · cases h
theorem am_r1_ex {f : Nat → List Value → Prop} (h : am_r1 False f st) : ∃ a r, st = .ref a :: r ∧ f a r := by
  unfold am_r1 at h
  split at h
  · exact ⟨_, _, rfl, h⟩
  · cases h
theorem am_o1_ex {f : Option Nat → List Value → Prop} (h : am_o1 False f st) : ∃ o r, st = am_ob o :: r ∧ f o r := by
  unfold am_o1 at h
  split at h
  · exact ⟨some _, _, rfl, h⟩
  · exact ⟨none, _, rfl, h⟩
  · cases h
theorem am_ai_ex {f : Nat → Int32 → List Value → Prop} (h : am_ai False f st) : ∃ a i r, st = .int i :: .ref a :: r ∧ f a i r := by
  unfold am_ai at h
  split at h
  · exact ⟨_, _, _, rfl, h⟩
  · cases h
theorem am_aii_ex {f : Nat → Int32 → Int32 → List Value → Prop} (h : am_aii False f st) : ∃ a i x r, st = .int x :: .int i :: .ref a :: r ∧ f a i x r := by
  unfold am_aii at h
  split at h
  · exact ⟨_, _, _, _, rfl, h⟩
  · cases h
theorem am_ail_ex {f : Nat → Int32 → Int64 → List Value → Prop} (h : am_ail False f st) : ∃ a i x r, st = .long x :: .int i :: .ref a :: r ∧ f a i x r := by
  unfold am_ail at h
  split at h
  · exact ⟨_, _, _, _, rfl, h⟩
  · cases h
theorem am_air_ex {f : Nat → Int32 → Option Nat → List Value → Prop} (h : am_air False f st) : ∃ a i o r, st = am_ob o :: .int i :: .ref a :: r ∧ f a i o r := by
  unfold am_air at h
  split at h
  · exact ⟨_, _, some _, _, rfl, h⟩
  · exact ⟨_, _, none, _, rfl, h⟩
  · cases h
theorem am_ri_ex {f : Nat → Int32 → List Value → Prop} (h : am_ri False f st) : ∃ a x r, st = .int x :: .ref a :: r ∧ f a x r := by
  unfold am_ri at h
  split at h
  · exact ⟨_, _, _, rfl, h⟩
  · cases h
theorem am_rr_ex {f : Nat → Option Nat → List Value → Prop} (h : am_rr False f st) : ∃ a o r, st = am_ob o :: .ref a :: r ∧ f a o r := by
  unfold am_rr at h
  split at h
  · exact ⟨_, some _, _, rfl, h⟩
  · exact ⟨_, none, _, rfl, h⟩
  · cases h
theorem am_v1_ex {f : Value → List Value → Prop} (h : am_v1 False f st) : ∃ v r, st = v :: r ∧ v.category = 1 ∧ f v r := by
  unfold am_v1 at h
  split at h
  · split at h
    · exact ⟨_, _, rfl, by assumption, h⟩
    · cases h
  · cases h
theorem am_v2_ex {f : Value → Value → List Value → Prop} (h : am_v2 False f st) : ∃ v w r, st = v :: w :: r ∧ (v.category = 1 ∧ w.category = 1) ∧ f v w r := by
  unfold am_v2 at h
  split at h
  · split at h
    · exact ⟨_, _, _, rfl, by assumption, h⟩
    · cases h
  · cases h
theorem am_ldI_ex {f : Int32 → Prop} {o : Option Value} (h : am_ldI False f o) : ∃ x, o = some (.int x) ∧ f x := by
  unfold am_ldI at h
  split at h
  · exact ⟨_, rfl, h⟩
  · cases h
theorem am_ldJ_ex {f : Int64 → Prop} {o : Option Value} (h : am_ldJ False f o) : ∃ x, o = some (.long x) ∧ f x := by
  unfold am_ldJ at h
  split at h
  · exact ⟨_, rfl, h⟩
  · cases h
theorem am_ldA_ex {f : Option Nat → Prop} {o : Option Value} (h : am_ldA False f o) : ∃ x, o = some (am_ob x) ∧ f x := by
  unfold am_ldA at h
  split at h
  · exact ⟨some _, rfl, h⟩
  · exact ⟨none, rfl, h⟩
  · cases h
end inv
theorem sm_ob_cat (o : Option Nat) : (am_ob o).category = 1 := by cases o <;> rfl
theorem sm_ob_ph (o : Option Nat) : am_ob o ≠ am_ph := by cases o <;> (intro h; cases h)
/-! locals -/
def sm_as (μ : Nat → Nat) (ls : List Value) : List (Nat × Value) := ls.zipIdx.filterMap fun q => if q.1 = am_ph then none else some (q.2, sm_v μ q.1)
theorem sm_as_mem {μ : Nat → Nat} {ls : List Value} {i : Nat} {w : Value} : (i, w) ∈ sm_as μ ls ↔ ∃ v, ls[i]? = some v ∧ v ≠ am_ph ∧ w = sm_v μ v := by
  unfold sm_as
  rw [List.mem_filterMap]
  constructor
  · rintro ⟨⟨v, j⟩, hm, he⟩
    rw [List.mem_zipIdx_iff_getElem?] at hm
    by_cases hp : v = am_ph
    · simp [hp] at he
    · simp only [hp, if_false, Option.some.injEq, Prod.mk.injEq] at he
      exact ⟨v, by rw [← he.1]; exact hm, hp, he.2.symm⟩
  · rintro ⟨v, h1, h2, rfl⟩
    exact ⟨(v, i), by rw [List.mem_zipIdx_iff_getElem?]; exact h1, by simp [h2]⟩
theorem sm_L.has {μ : Nat → Nat} {n nL : Nat} {ls : List Value} {A : Array Slot} (h : sm_L μ n nL ls A) : lv_has A nL (sm_as μ ls) := by
  refine ⟨h.1, h.2.1, fun q hq => ?_⟩
  obtain ⟨v, h1, h2, h3⟩ := sm_as_mem.mp hq
  rw [h3]
  exact h.2.2.2.1 _ _ h1 h2
theorem am_set1_get : ∀ (ls : List Value) (k : Nat) (v : Value) (j : Nat), k < ls.length → (am_set1 ls k v)[j]? = if j = k then some v else if j + 1 = k then ls[j]?.map am_half else ls[j]?
  | [], k, v, j, h => by simp at h
  | a :: r, 0, v, j, h => by
    cases j with
    | zero => rfl
    | succ j => simp [am_set1]
  | a :: r, 1, v, j, h => by
    have h2 : 0 < r.length := by
      simp only [List.length_cons] at h
      omega
    cases j with
    | zero => simp [am_set1]
    | succ j =>
      have := am_set1_get r 0 v j h2
      simp only [am_set1, List.getElem?_cons_succ, this]
      cases j <;> simp
  | a :: r, k + 2, v, j, h => by
    have h2 : k + 1 < r.length := by
      simp only [List.length_cons] at h
      omega
    cases j with
    | zero => simp [am_set1]
    | succ j =>
      have := am_set1_get r (k + 1) v j h2
      simp only [am_set1, List.getElem?_cons_succ, this]
      simp only [Nat.add_right_cancel_iff]
theorem am_set1_len : ∀ (ls : List Value) (k : Nat) (v : Value), (am_set1 ls k v).length = ls.length
  | [], k, v => rfl
  | a :: r, 0, v => rfl
  | a :: r, 1, v => by simp [am_set1, am_set1_len r 0 v]
  | a :: r, k + 2, v => by simp [am_set1, am_set1_len r (k + 1) v]
theorem am_set2_get : ∀ (ls : List Value) (k : Nat) (v : Value) (j : Nat), k + 1 < ls.length → (am_set2 ls k v)[j]? = if j = k then some v else if j = k + 1 then some am_ph else if j + 1 = k then ls[j]?.map am_half else ls[j]?
  | [], k, v, j, h => by simp at h
  | a :: r, 0, v, j, h => by
    have h2 : 0 < r.length := by
      simp only [List.length_cons] at h
      omega
    cases j with
    | zero => rfl
    | succ j =>
      have := am_set1_get r 0 am_ph j h2
      simp only [am_set2, List.getElem?_cons_succ, this]
      cases j <;> simp
  | a :: r, 1, v, j, h => by
    have h2 : 0 + 1 < r.length := by
      simp only [List.length_cons] at h
      omega
    cases j with
    | zero => simp [am_set2]
    | succ j =>
      have := am_set2_get r 0 v j h2
      simp only [am_set2, List.getElem?_cons_succ, this]
      cases j <;> simp
  | a :: r, k + 2, v, j, h => by
    have h2 : (k + 1) + 1 < r.length := by
      simp only [List.length_cons] at h
      omega
    cases j with
    | zero => simp [am_set2]
    | succ j =>
      have := am_set2_get r (k + 1) v j h2
      simp only [am_set2, List.getElem?_cons_succ, this]
      simp only [Nat.add_right_cancel_iff]
theorem am_set2_len : ∀ (ls : List Value) (k : Nat) (v : Value), (am_set2 ls k v).length = ls.length
  | [], k, v => rfl
  | a :: r, 0, v => by simp [am_set2, am_set1_len]
  | a :: r, 1, v => by simp [am_set2, am_set2_len r 0 v]
  | a :: r, k + 2, v => by simp [am_set2, am_set2_len r (k + 1) v]
theorem am_half_some {v u : Value} (h : am_half v = u) (hu : u ≠ am_ph) : u = v ∧ v.category ≠ 2 := by
  cases v <;> simp_all [am_half, Value.category]
theorem sm_L.set1 {μ : Nat → Nat} {n nL k : Nat} {ls : List Value} {A A' : Array Slot} {v : Value} (h : sm_L μ n nL ls A) (hk : k < ls.length) (hw : sm_wv n v)
    (h' : lv_has A' nL ((k, sm_v μ v) :: (sm_as μ ls).filter (fun q => !(q.1 == k) && !(q.1 + 1 == k && q.2.category == 2)))) : sm_L μ n nL (am_set1 ls k v) A' := by
  refine ⟨h'.1, h'.2.1, by rw [am_set1_len]; exact h.2.2.1, fun i u hu hp => ?_, fun u hu => ?_⟩
  · rw [am_set1_get ls k v i hk] at hu
    by_cases e : i = k
    · rw [if_pos e] at hu
      cases hu
      subst e
      exact h'.2.2 (i, sm_v μ v) List.mem_cons_self
    · rw [if_neg e] at hu
      have key : ∀ w, ls[i]? = some w → w ≠ am_ph → (i + 1 = k → w.category ≠ 2) → A'[i]? = some (.val (sm_v μ w)) := fun w h1 h2 h3 => by
        refine h'.2.2 (i, sm_v μ w) (List.mem_cons_of_mem _ (List.mem_filter.mpr ⟨sm_as_mem.mpr ⟨w, h1, h2, rfl⟩, ?_⟩))
        by_cases e2 : i + 1 = k
        · simp [e, sm_cat, h3 e2]
        · simp [e, e2]
      by_cases e2 : i + 1 = k
      · rw [if_pos e2] at hu
        cases hx : ls[i]? with
        | none => rw [hx] at hu; cases hu
        | some w =>
          rw [hx] at hu
          obtain ⟨rfl, h3⟩ := am_half_some (Option.some.inj hu) hp
          exact key _ hx hp (fun _ => h3)
      · rw [if_neg e2] at hu
        exact key u hu hp (fun z => absurd z e2)
  · obtain ⟨i, hi⟩ := List.getElem?_of_mem hu
    rw [am_set1_get ls k v i hk] at hi
    by_cases e : i = k
    · rw [if_pos e] at hi; cases hi; exact hw
    · rw [if_neg e] at hi
      by_cases e2 : i + 1 = k
      · rw [if_pos e2] at hi
        cases hx : ls[i]? with
        | none => rw [hx] at hi; cases hi
        | some w =>
          rw [hx] at hi
          cases hi
          have := h.2.2.2.2 w (List.mem_of_getElem? hx)
          cases w <;> first | exact this | exact sm_wv_ph
      · rw [if_neg e2] at hi
        exact h.2.2.2.2 u (List.mem_of_getElem? hi)
theorem sm_L.set2 {μ : Nat → Nat} {n nL k : Nat} {ls : List Value} {A A' : Array Slot} {x : Int64} (h : sm_L μ n nL ls A) (hk : k + 1 < ls.length)
    (h' : lv_has A' nL ((k, .long x) :: (sm_as μ ls).filter (fun q => !(q.1 == k) && (!(q.1 == k + 1) && !(q.1 + 1 == k && q.2.category == 2))))) : sm_L μ n nL (am_set2 ls k (.long x)) A' := by
  refine ⟨h'.1, h'.2.1, by rw [am_set2_len]; exact h.2.2.1, fun i u hu hp => ?_, fun u hu => ?_⟩
  · rw [am_set2_get ls k _ i hk] at hu
    by_cases e : i = k
    · rw [if_pos e] at hu
      cases hu
      subst e
      exact h'.2.2 (i, .long x) List.mem_cons_self
    · rw [if_neg e] at hu
      by_cases e1 : i = k + 1
      · rw [if_pos e1] at hu
        exact absurd (Option.some.inj hu).symm hp
      · rw [if_neg e1] at hu
        have key : ∀ w, ls[i]? = some w → w ≠ am_ph → (i + 1 = k → w.category ≠ 2) → A'[i]? = some (.val (sm_v μ w)) := fun w h1 h2 h3 => by
          refine h'.2.2 (i, sm_v μ w) (List.mem_cons_of_mem _ (List.mem_filter.mpr ⟨sm_as_mem.mpr ⟨w, h1, h2, rfl⟩, ?_⟩))
          by_cases e2 : i + 1 = k
          · simp [e, e1, sm_cat, h3 e2]
          · simp [e, e1, e2]
        by_cases e2 : i + 1 = k
        · rw [if_pos e2] at hu
          cases hx : ls[i]? with
          | none => rw [hx] at hu; cases hu
          | some w =>
            rw [hx] at hu
            obtain ⟨rfl, h3⟩ := am_half_some (Option.some.inj hu) hp
            exact key _ hx hp (fun _ => h3)
        · rw [if_neg e2] at hu
          exact key u hu hp (fun z => absurd z e2)
  · obtain ⟨i, hi⟩ := List.getElem?_of_mem hu
    rw [am_set2_get ls k _ i hk] at hi
    by_cases e : i = k
    · rw [if_pos e] at hi; cases hi; exact sm_wv_l
    · rw [if_neg e] at hi
      by_cases e1 : i = k + 1
      · rw [if_pos e1] at hi; cases hi; exact sm_wv_ph
      · rw [if_neg e1] at hi
        by_cases e2 : i + 1 = k
        · rw [if_pos e2] at hi
          cases hx : ls[i]? with
          | none => rw [hx] at hi; cases hi
          | some w =>
            rw [hx] at hi
            cases hi
            have := h.2.2.2.2 w (List.mem_of_getElem? hx)
            cases w <;> first | exact this | exact sm_wv_ph
        · rw [if_neg e2] at hi
          exact h.2.2.2.2 u (List.mem_of_getElem? hi)

