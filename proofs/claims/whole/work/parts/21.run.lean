/-! ===== A RUN OF THE SMALL MACHINE IS A RUN OF THE MACHINE ===== -/
theorem sm_clr_get : ∀ (ks : List Nat) (ls : List Value) (i : Nat) (v : Value), (am_clr ks ls)[i]? = some v → v ≠ am_ph → ls[i]? = some v
  | [], ls, i, v, h, _ => h
  | k :: r, ls, i, v, h, hp => by
    have h2 := sm_clr_get r (ls.set k am_ph) i v h hp
    rw [List.getElem?_set] at h2
    split at h2
    · split at h2
      · exact absurd (Option.some.inj h2).symm hp
      · cases h2
    · exact h2
theorem sm_clr_len : ∀ (ks : List Nat) (ls : List Value), (am_clr ks ls).length = ls.length
  | [], ls => rfl
  | k :: r, ls => by
    show (am_clr r (ls.set k am_ph)).length = _
    rw [sm_clr_len r]
    simp
theorem sm_fg_get : ∀ (fg : List (Nat × List Nat)) (pc : Nat) (ls : List Value) (i : Nat) (v : Value), (am_fg fg pc ls)[i]? = some v → v ≠ am_ph → ls[i]? = some v
  | [], _, _, _, _, h, _ => h
  | q :: r, pc, ls, i, v, h, hp => by
    unfold am_fg at h
    cases hq : Nat.beq q.1 pc with
    | true => rw [hq] at h; exact sm_clr_get q.2 ls i v h hp
    | false => rw [hq] at h; exact sm_fg_get r pc ls i v h hp
theorem sm_fg_len : ∀ (fg : List (Nat × List Nat)) (pc : Nat) (ls : List Value), (am_fg fg pc ls).length = ls.length
  | [], _, _ => rfl
  | q :: r, pc, ls => by
    unfold am_fg
    cases Nat.beq q.1 pc with
    | true => exact sm_clr_len _ _
    | false => exact sm_fg_len r pc ls
theorem sm_L.fg {μ : Nat → Nat} {n nL : Nat} {ls : List Value} {A : Array Slot} (h : sm_L μ n nL ls A) (fg : List (Nat × List Nat)) (pc : Nat) : sm_L μ n nL (am_fg fg pc ls) A := by
  refine ⟨h.1, h.2.1, by rw [sm_fg_len]; exact h.2.2.1, fun i v hv hp => h.2.2.2.1 i v (sm_fg_get fg pc ls i v hv hp) hp, fun v hv => ?_⟩
  by_cases hp : v = am_ph
  · subst hp
    exact sm_wv_ph
  · obtain ⟨i, hi⟩ := List.getElem?_of_mem hv
    exact h.2.2.2.2 v (List.mem_of_getElem? (sm_fg_get fg pc ls i v hi hp))
/-- an entry that is found is right -/
theorem sm_zB_mem {P : SP} : ∀ (cd : List AE) (ps : List Nat), sm_zB P cd ps = true → ∀ (pc : Nat) (q : AE), am_fetch cd pc = some q → q.1 = pc ∧ ∃ z, sm_eB P q z = true
  | [], _, _, pc, q, h => by cases h
  | q0 :: r, [], h, _, _, _ => by cases h
  | q0 :: r, p0 :: ps, h, pc, q, hf => by
    unfold sm_zB at h
    rw [Bool.and_eq_true] at h
    unfold am_fetch at hf
    cases hq : Nat.beq q0.1 pc with
    | true =>
      rw [hq] at hf
      cases hf
      exact ⟨Nat.eq_of_beq_eq_true hq, p0, h.1⟩
    | false =>
      rw [hq] at hf
      exact sm_zB_mem r ps h.2 pc q hf
theorem sm_iB_all {mi : Nat} (h : mi < 166) : sm_iB mi = true := by
  have key : ∀ (k n : Nat), (List.range' k n).all sm_iB = true → ∀ i, k ≤ i → i < k + n → sm_iB i = true := fun k n hh i h1 h2 => List.all_eq_true.mp hh i (List.mem_range'_1.mpr ⟨h1, h2⟩)
  rcases (show (0 ≤ mi ∧ mi < 12) ∨ (12 ≤ mi ∧ mi < 24) ∨ (24 ≤ mi ∧ mi < 36) ∨ (36 ≤ mi ∧ mi < 48) ∨ (48 ≤ mi ∧ mi < 60) ∨ (60 ≤ mi ∧ mi < 72) ∨ (72 ≤ mi ∧ mi < 84) ∨ (84 ≤ mi ∧ mi < 96) ∨ (96 ≤ mi ∧ mi < 108) ∨ (108 ≤ mi ∧ mi < 120) ∨ (120 ≤ mi ∧ mi < 132) ∨ (132 ≤ mi ∧ mi < 144) ∨ (144 ≤ mi ∧ mi < 156) ∨ (156 ≤ mi ∧ mi < 166) by omega) with h0 | h1 | h2 | h3 | h4 | h5 | h6 | h7 | h8 | h9 | h10 | h11 | h12 | h13
  · exact key 0 12 sm_i0 mi h0.1 (by omega)
  · exact key 12 12 sm_i1 mi h1.1 (by omega)
  · exact key 24 12 sm_i2 mi h2.1 (by omega)
  · exact key 36 12 sm_i3 mi h3.1 (by omega)
  · exact key 48 12 sm_i4 mi h4.1 (by omega)
  · exact key 60 12 sm_i5 mi h5.1 (by omega)
  · exact key 72 12 sm_i6 mi h6.1 (by omega)
  · exact key 84 12 sm_i7 mi h7.1 (by omega)
  · exact key 96 12 sm_i8 mi h8.1 (by omega)
  · exact key 108 12 sm_i9 mi h9.1 (by omega)
  · exact key 120 12 sm_i10 mi h10.1 (by omega)
  · exact key 132 12 sm_i11 mi h11.1 (by omega)
  · exact key 144 12 sm_i12 mi h12.1 (by omega)
  · exact key 156 10 sm_i13 mi h13.1 (by omega)
/-- the machine's own method, entered plainly (java.lang.Math's too) -/
theorem sm_ofW {l : Launch} {y : MethodName} {ws ws' : List Cond} {rm : Room} {Pc : Array Value → State → Prop} {Qc : Array Value → State → Outcome → State → Prop} {mc ms : Nat} {free : Addr → Prop} {cc : ByteArray} {maxL : Nat} {ret : Option FieldType}
    (hy : plainFor y = true) (hw : ws = Cond.code y cc maxL ret :: ws')
    (body : ∀ p e s m args below meth c s₁, BodyLoose p l y (headSpec ws rm) cc maxL ret e s m args below meth c s₁ → c.maxLocals = maxL → Pc args s →
      W p l e (headSpec ws rm).room s m args below meth c s.heap [] 0 0 (MQ below Qc args s mc ms free) (entryFrame m args maxL)) : Met l y ws rm Pc Qc mc ms free := by
  refine MetFree.of_bodySF (code := cc) (maxLocals := maxL) (ret := ret) hy ?_ ?_
  · intro args s m h hn
    obtain ⟨meth, c, h1, h2, h3, h4, h5, h6, -, -⟩ := Cond.code_spec hn (atoms_spec (ws := ws) h _ (by rw [hw]; exact List.mem_cons_self))
    exact ⟨meth, c, h1, h2, h3, h4, h5, h6⟩
  · intro p e s m args below meth c s₁ B hml hP _
    have hh0 : s₁.heap = s.heap := by rw [B.state]; rfl
    obtain ⟨t, a1, o, b1, b2, b3⟩ := body p e s m args below meth c s₁ B hml hP s₁ hh0 (Stand.of_body B)
    exact ⟨t, o, a1, b1, b2, ⟨b3.1, b3.2⟩⟩
/-! a method's arguments as its first locals -/
theorem sm_pad_get (μ : Nat → Nat) : ∀ (as : List Value) (k i : Nat) (v : Value), (am_pad as)[i]? = some v → v ≠ am_ph → (k + i, sm_v μ v) ∈ lv_args k (as.map (sm_v μ))
  | [], k, i, v, _, h, _ => by simp [am_pad] at h
  | a :: r, k, i, v, hd, h, hp => by
    have hd2 : ∀ w ∈ r, ∀ d, w ≠ .double d := fun w hw => hd w (List.mem_cons_of_mem _ hw)
    show (k + i, sm_v μ v) ∈ (k, sm_v μ a) :: lv_args (if (sm_v μ a).category = 2 then k + 2 else k + 1) (r.map (sm_v μ))
    rw [sm_cat]
    by_cases hl : ∃ x, a = .long x
    · obtain ⟨x, rfl⟩ := hl
      rw [if_pos rfl]
      match i, h with
      | 0, h => cases h; exact List.mem_cons_self
      | 1, h => cases h; exact absurd rfl hp
      | i + 2, h =>
        have := sm_pad_get μ r (k + 2) i v hd2 h hp
        rw [show k + (i + 2) = k + 2 + i by omega]
        exact List.mem_cons_of_mem _ this
    · have hpad : am_pad (a :: r) = a :: am_pad r := by
        cases a <;> first | rfl | exact absurd ⟨_, rfl⟩ hl
      rw [hpad] at h
      cases i with
      | zero => cases h; exact List.mem_cons_self
      | succ i =>
        have := sm_pad_get μ r (k + 1) i v hd2 h hp
        by_cases h2 : a.category = 2
        · exact absurd h2 (by cases a <;> first | (intro z; cases z; done) | exact absurd ⟨_, rfl⟩ hl | exact absurd rfl (hd _ List.mem_cons_self _))
        · rw [if_neg h2, show k + (i + 1) = k + 1 + i by omega]
          exact List.mem_cons_of_mem _ this
