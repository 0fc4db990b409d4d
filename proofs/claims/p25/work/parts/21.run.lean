/-! ===== A RUN OF THE SMALL MACHINE IS A RUN OF THE MACHINE ===== -/
theorem sm_clr_get : ∀ (ks : List Nat) (ls : List Value) (i : Nat) (v : Value), (am_clr ks ls)[i]? = some v → v ≠ am_ph → ls[i]? = some v
  | [], ls, i, v, h, _ => h
  | k :: r, ls, i, v, h, hp => by
    have h2 := sm_clr_get r (ls.set k am_ph) i v h hp
    rw [List.getElem?_set] at h2
    split at h2
    · split at h2
      · exact absurd (Option.some.inj h2).symm hp
      · cases h2
    · exact h2
theorem sm_clr_len : ∀ (ks : List Nat) (ls : List Value), (am_clr ks ls).length = ls.length
  | [], ls => rfl
  | k :: r, ls => by
    show (am_clr r (ls.set k am_ph)).length = _
    rw [sm_clr_len r]
    simp
theorem sm_fg_get : ∀ (fg : List (Nat × List Nat)) (pc : Nat) (ls : List Value) (i : Nat) (v : Value), (am_fg fg pc ls)[i]? = some v → v ≠ am_ph → ls[i]? = some v
  | [], _, _, _, _, h, _ => h
  | q :: r, pc, ls, i, v, h, hp => by
    unfold am_fg at h
    cases hq : Nat.beq q.1 pc with
    | true => rw [hq] at h; exact sm_clr_get q.2 ls i v h hp
    | false => rw [hq] at h; exact sm_fg_get r pc ls i v h hp
theorem sm_fg_len : ∀ (fg : List (Nat × List Nat)) (pc : Nat) (ls : List Value), (am_fg fg pc ls).length = ls.length
  | [], _, _ => rfl
  | q :: r, pc, ls => by
    unfold am_fg
    cases Nat.beq q.1 pc with
    | true => exact sm_clr_len _ _
    | false => exact sm_fg_len r pc ls
theorem sm_L.fg {μ : Nat → Nat} {n nL : Nat} {ls : List Value} {A : Array Slot} (h : sm_L μ n nL ls A) (fg : List (Nat × List Nat)) (pc : Nat) : sm_L μ n nL (am_fg fg pc ls) A := by
  refine ⟨h.1, h.2.1, by rw [sm_fg_len]; exact h.2.2.1, fun i v hv hp => h.2.2.2.1 i v (sm_fg_get fg pc ls i v hv hp) hp, fun v hv => ?_⟩
  by_cases hp : v = am_ph
  · subst hp
    exact sm_wv_ph
  · obtain ⟨i, hi⟩ := List.getElem?_of_mem hv
    exact h.2.2.2.2 v (List.mem_of_getElem? (sm_fg_get fg pc ls i v hi hp))
/-- an entry that is found is right -/
theorem sm_zB_mem {P : SP} : ∀ (cd : List AE) (ps : List Nat), sm_zB P cd ps = true → ∀ (pc : Nat) (q : AE), am_fetch cd pc = some q → q.1 = pc ∧ ∃ z, sm_eB P q z = true
  | [], _, _, pc, q, h => by cases h
  | q0 :: r, [], h, _, _, _ => by cases h
  | q0 :: r, p0 :: ps, h, pc, q, hf => by
    unfold sm_zB at h
    rw [Bool.and_eq_true] at h
    unfold am_fetch at hf
    cases hq : Nat.beq q0.1 pc with
    | true =>
      rw [hq] at hf
      cases hf
      exact ⟨Nat.eq_of_beq_eq_true hq, p0, h.1⟩
    | false =>
      rw [hq] at hf
      exact sm_zB_mem r ps h.2 pc q hf
theorem sm_iB_all {mi : Nat} (h : mi < 166) : sm_iB mi = true := by
  have key : ∀ (k n : Nat), (List.range' k n).all sm_iB = true → ∀ i, k ≤ i → i < k + n → sm_iB i = true := fun k n hh i h1 h2 => List.all_eq_true.mp hh i (List.mem_range'_1.mpr ⟨h1, h2⟩)
  rcases (show (0 ≤ mi ∧ mi < 12) ∨ (12 ≤ mi ∧ mi < 24) ∨ (24 ≤ mi ∧ mi < 36) ∨ (36 ≤ mi ∧ mi < 48) ∨ (48 ≤ mi ∧ mi < 60) ∨ (60 ≤ mi ∧ mi < 72) ∨ (72 ≤ mi ∧ mi < 84) ∨ (84 ≤ mi ∧ mi < 96) ∨ (96 ≤ mi ∧ mi < 108) ∨ (108 ≤ mi ∧ mi < 120) ∨ (120 ≤ mi ∧ mi < 132) ∨ (132 ≤ mi ∧ mi < 144) ∨ (144 ≤ mi ∧ mi < 156) ∨ (156 ≤ mi ∧ mi < 166) by omega) with h0 | h1 | h2 | h3 | h4 | h5 | h6 | h7 | h8 | h9 | h10 | h11 | h12 | h13
  · exact key 0 12 sm_i0 mi h0.1 (by omega)
  · exact key 12 12 sm_i1 mi h1.1 (by omega)
  · exact key 24 12 sm_i2 mi h2.1 (by omega)
  · exact key 36 12 sm_i3 mi h3.1 (by omega)
  · exact key 48 12 sm_i4 mi h4.1 (by omega)
  · exact key 60 12 sm_i5 mi h5.1 (by omega)
  · exact key 72 12 sm_i6 mi h6.1 (by omega)
  · exact key 84 12 sm_i7 mi h7.1 (by omega)
  · exact key 96 12 sm_i8 mi h8.1 (by omega)
  · exact key 108 12 sm_i9 mi h9.1 (by omega)
  · exact key 120 12 sm_i10 mi h10.1 (by omega)
  · exact key 132 12 sm_i11 mi h11.1 (by omega)
  · exact key 144 12 sm_i12 mi h12.1 (by omega)
  · exact key 156 10 sm_i13 mi h13.1 (by omega)
/-- the machine's own method, entered plainly (java.lang.Math's too) -/
theorem sm_ofW {l : Launch} {y : MethodName} {ws ws' : List Cond} {rm : Room} {Pc : Array Value → State → Prop} {Qc : Array Value → State → Outcome → State → Prop} {mc ms : Nat} {free : Addr → Prop} {cc : ByteArray} {maxL : Nat} {ret : Option FieldType}
    (hy : plainFor y = true) (hw : ws = Cond.code y cc maxL ret :: ws')
    (body : ∀ p e s m args below meth c s₁, BodyLoose p l y (headSpec ws rm) cc maxL ret e s m args below meth c s₁ → c.maxLocals = maxL → Pc args s →
      W p l e (headSpec ws rm).room s m args below meth c s.heap [] 0 0 (MQ below Qc args s mc ms free) (entryFrame m args maxL)) : Met l y ws rm Pc Qc mc ms free := by
  refine MetFree.of_bodySF (code := cc) (maxLocals := maxL) (ret := ret) hy ?_ ?_
  · intro args s m h hn
    obtain ⟨meth, c, h1, h2, h3, h4, h5, h6, -, -⟩ := Cond.code_spec hn (atoms_spec (ws := ws) h _ (by rw [hw]; exact List.mem_cons_self))
    exact ⟨meth, c, h1, h2, h3, h4, h5, h6⟩
  · intro p e s m args below meth c s₁ B hml hP _
    have hh0 : s₁.heap = s.heap := by rw [B.state]; rfl
    obtain ⟨t, a1, o, b1, b2, b3⟩ := body p e s m args below meth c s₁ B hml hP s₁ hh0 (Stand.of_body B)
    exact ⟨t, o, a1, b1, b2, ⟨b3.1, b3.2⟩⟩
/-! a method's arguments as its first locals -/
theorem sm_pad_get (μ : Nat → Nat) : ∀ (as : List Value) (k i : Nat) (v : Value), (∀ w ∈ as, ∀ d, w ≠ .double d) → (am_pad as)[i]? = some v → v ≠ am_ph → (k + i, sm_v μ v) ∈ lv_args k (as.map (sm_v μ))
  | [], k, i, v, _, h, _ => by simp [am_pad] at h
  | a :: r, k, i, v, hd, h, hp => by
    have hd2 : ∀ w ∈ r, ∀ d, w ≠ .double d := fun w hw => hd w (List.mem_cons_of_mem _ hw)
    show (k + i, sm_v μ v) ∈ (k, sm_v μ a) :: lv_args (if (sm_v μ a).category = 2 then k + 2 else k + 1) (r.map (sm_v μ))
    rw [sm_cat]
    by_cases hl : ∃ x, a = .long x
    · obtain ⟨x, rfl⟩ := hl
      rw [if_pos (show (Value.long x).category = 2 from rfl)]
      match i, h with
      | 0, h => cases h; exact List.mem_cons_self
      | 1, h => cases h; exact absurd rfl hp
      | i + 2, h =>
        have := sm_pad_get μ r (k + 2) i v hd2 h hp
        rw [show k + (i + 2) = k + 2 + i by omega]
        exact List.mem_cons_of_mem _ this
    · have hpad : am_pad (a :: r) = a :: am_pad r := by
        cases a <;> first | rfl | exact absurd ⟨_, rfl⟩ hl
      rw [hpad] at h
      cases i with
      | zero => cases h; exact List.mem_cons_self
      | succ i =>
        have := sm_pad_get μ r (k + 1) i v hd2 h hp
        by_cases h2 : a.category = 2
        · exact absurd h2 (by cases a <;> first | (intro z; cases z; done) | exact absurd ⟨_, rfl⟩ hl | exact absurd rfl (hd _ List.mem_cons_self _))
        · rw [if_neg h2, show k + (i + 1) = k + 1 + i by omega]
          exact List.mem_cons_of_mem _ this
theorem sm_rB_1 {r : Option FieldType} (h : sm_rB 1 r = true) : r = some .int := by
  cases r with
  | none => simp [sm_rB] at h
  | some t => cases t <;> first | rfl | (simp [sm_rB] at h; done)
theorem sm_rB_2 {r : Option FieldType} (h : sm_rB 2 r = true) : r = some .boolean := by
  cases r with
  | none => simp [sm_rB] at h
  | some t => cases t <;> first | rfl | (simp [sm_rB] at h; done)
theorem sm_rB_3 {r : Option FieldType} (h : sm_rB 3 r = true) : r = some .long := by
  cases r with
  | none => simp [sm_rB] at h
  | some t => cases t <;> first | rfl | (simp [sm_rB] at h; done)
theorem sm_rB_4 {r : Option FieldType} (h : sm_rB 4 r = true) : ∃ nm, r = some (.object nm) := by
  cases r with
  | none => simp [sm_rB] at h
  | some t => cases t <;> first | exact ⟨_, rfl⟩ | (simp [sm_rB] at h; done)
theorem sm_pad_len (μ : Nat → Nat) : ∀ (as : List Value), (∀ w ∈ as, ∀ d, w ≠ .double d) → (lg_sl (as.map (sm_v μ))).length = (am_pad as).length
  | [], _ => rfl
  | a :: r, hd => by
    have ih := sm_pad_len μ r (fun w hw => hd w (List.mem_cons_of_mem _ hw))
    have e : lg_sl ((a :: r).map (sm_v μ)) = (if (sm_v μ a).category = 2 then [.val (sm_v μ a), .second] else [.val (sm_v μ a)]) ++ lg_sl (r.map (sm_v μ)) := rfl
    rw [e, List.length_append, ih, sm_cat]
    cases a <;> first | (simp [am_pad, Value.category]; done) | (simp [am_pad, Value.category]; omega) | exact absurd rfl (hd _ List.mem_cons_self _)
theorem sm_nodbl {n : Nat} {as : List Value} (h : ∀ w ∈ as, sm_wv n w) : ∀ w ∈ as, ∀ d, w ≠ .double d := by
  intro w hw d e
  exact absurd (h w hw n (Or.inr ⟨d, e⟩)) (Nat.lt_irrefl _)
theorem sm_entry {μ : Nat → Nat} {n nL : Nat} {as : List Value} (hw : ∀ w ∈ as, sm_wv n w) (hl : (am_pad as).length ≤ nL) : sm_L μ n nL (am_entry nL as) ((lg_sl (as.map (sm_v μ)) ++ List.replicate (nL - (lg_sl (as.map (sm_v μ))).length) Slot.unset).toArray) := by
  have hd := sm_nodbl hw
  have hpl := sm_pad_len μ as hd
  have hen := lv_entry (as.map (sm_v μ)) (n := nL) (by rw [hpl]; exact hl)
  have hmem : ∀ (i : Nat) (v : Value), (am_entry nL as)[i]? = some v → v ≠ am_ph → (am_pad as)[i]? = some v := by
    intro i v hv hp
    unfold am_entry at hv
    by_cases hi : i < (am_pad as).length
    · rw [List.getElem?_append_left hi] at hv
      exact hv
    · rw [List.getElem?_append_right (by omega)] at hv
      have := List.mem_of_getElem? hv
      exact absurd (List.eq_of_mem_replicate this) hp
  have hpm : ∀ (q : List Value) (v : Value), v ∈ am_pad q → v ∈ q ∨ v = am_ph := by
    intro q
    induction q with
    | nil => intro v hv; cases hv
    | cons a r ih =>
      intro v hv
      cases a <;> (simp only [am_pad, List.mem_cons] at hv ⊢; rcases hv with hv | hv <;> first | exact Or.inl (Or.inl hv) | (rcases hv with hv | hv <;> first | exact Or.inr hv | exact (ih v hv).imp Or.inr id) | exact (ih v hv).imp Or.inr id)
  refine ⟨hen.1, hen.2.1, ?_, fun i v hv hp => ?_, fun v hv => ?_⟩
  · unfold am_entry
    rw [List.length_append, List.length_replicate]
    omega
  · have h1 := sm_pad_get μ as 0 i v hd (hmem i v hv hp) hp
    rw [Nat.zero_add] at h1
    exact hen.2.2 _ h1
  · by_cases hp : v = am_ph
    · subst hp
      exact sm_wv_ph
    · obtain ⟨i, hi⟩ := List.getElem?_of_mem hv
      rcases hpm as v (List.mem_of_getElem? (hmem i v hi hp)) with z | z
      · exact hw v z
      · exact absurd z hp
section runs
variable {p : Program} {l : Launch} {e : Env} {R : Room} {s : State} {m : MethodId} {args : Array Value} {below : List Frame} {meth : Method} {c : Code} {Q : State → Prop}
variable {P : SP} {Ts : List Cond} {D : va_G} {dA : Nat → ClassId} {base b L : Nat} {xs : Nat → Int32} {μ0 : Nat → Nat} {n0 cE sE : Nat} {F : AH}
variable {CL : Nat → Nat → Nat → List Value → Nat → List Value → List Value → AH → Prop} {RT : Option Value → AH → Prop} {rk : Nat} {ts : List Nat} {cv : Int32} {cj : Int64} {ls st : List Value} {h : AH} {pc : Nat}
/-- a frame's own return, as the kit has it: the method's contract holds -/
theorem sm_met_rt (C : sm_cx p R s m args meth c P Ts D dA base b L xs cE sE) {mc ms : Nat} (hr : meth.sig.returnType = P.2.2.2.1) (hrb : sm_rB rk P.2.2.2.1 = true) (hlocks : meth.locks = false) (v : Option Value) (a0 : Array Value) : sm_rt p l e R s m args below meth c (MQ below (sm_Q D dA base b L xs μ0 n0 v F) args s cE sE (fun q => base ≤ q)) P D dA base b L xs μ0 n0 cE sE F rk v := by
  obtain ⟨hx, hb, hml, hown, hts, hG, hNT, hAO, hK, hX, hbb, hbs, hin, hfr, hlo, hcE, hsE⟩ := C
  intro i pc μ H locs A hd hi hn hR hS hm hw
  rcases hi with ⟨rfl, rfl, rfl⟩ | ⟨x, rfl, rfl, hrk⟩ | ⟨x, rfl, rfl, rfl⟩ | ⟨x, rfl, rfl, rfl⟩
  · refine W.vret hx hb (hr.trans (sm_rB_0 hrb)) (fun t ht hW => ⟨⟨μ, rfl, hm, by show sm_R D dA base b L xs μ F t.heap; rw [ht]; exact hR⟩, hS.F ht⟩) hS.2.2 hd hlocks
  · rcases hrk with rfl | ⟨rfl, hx01⟩
    · have hret : P.2.2.2.1 = some .int := sm_rB_1 hrb
      exact W.iret hx hb (hr.trans hret) (fun t ht hW => ⟨⟨x, μ, rfl, ⟨rfl, hm⟩, by show sm_R D dA base b L xs μ F t.heap; rw [ht]; exact hR⟩, hS.F ht⟩) hS.2.2 hd hlocks
    · have hret : P.2.2.2.1 = some .boolean := sm_rB_2 hrb
      refine W.zret hx hb (hr.trans hret) ?_ (fun t ht hW => ⟨⟨x, μ, rfl, ⟨rfl, hm⟩, by show sm_R D dA base b L xs μ F t.heap; rw [ht]; exact hR⟩, hS.F ht⟩) hS.2.2 hd hlocks
      rcases hx01 with rfl | rfl <;> decide
  · have hret : P.2.2.2.1 = some .long := sm_rB_3 hrb
    exact W.lret hx hb (hr.trans hret) (fun t ht hW => ⟨⟨x, μ, rfl, ⟨rfl, hm⟩, by show sm_R D dA base b L xs μ F t.heap; rw [ht]; exact hR⟩, hS.F ht⟩) hS.2.2 hd hlocks
  · have hret : ∃ nm, P.2.2.2.1 = some (.object nm) := sm_rB_4 hrb
    obtain ⟨nm, hret⟩ := hret
    exact W.aret hx hb (hr.trans hret) (Or.inl ⟨nm, rfl⟩) (Or.inr ⟨_, rfl⟩) (fun t ht hW => ⟨⟨μ, μ x, rfl, hm, rfl, hw _ rfl x (Or.inl rfl), by show sm_R D dA base b L xs μ F t.heap; rw [ht]; exact hR⟩, hS.F ht⟩) hS.2.2 hd hlocks
end runs
theorem sm_vo_bd {rk' : Nat} {x : Option Value × AH} {f : List Value → AH → AR} {r : Option Value × AH} (h : am_bd rk' (some x) f = some r) : sm_vo x.1 := by
  obtain ⟨v, h1⟩ := x
  unfold am_bd at h
  split at h
  · unfold am_bV at h
    split at h
    · rename_i z; cases z; exact Or.inl rfl
    · cases h
  · unfold am_bI at h
    split at h
    · rename_i z; cases z; exact Or.inr (Or.inl ⟨_, rfl⟩)
    · cases h
  · unfold am_bI at h
    split at h
    · rename_i z; cases z; exact Or.inr (Or.inl ⟨_, rfl⟩)
    · cases h
  · unfold am_bJ at h
    split at h
    · rename_i z; cases z; exact Or.inr (Or.inr (Or.inl ⟨_, rfl⟩))
    · cases h
  · unfold am_bA at h
    split at h
    · rename_i z; cases z; exact Or.inr (Or.inr (Or.inr ⟨_, rfl⟩))
    · cases h
  · cases h
theorem sm_nx_fg {p : Program} {l : Launch} {e : Env} {R : Room} {s : State} {m : MethodId} {args : Array Value} {below : List Frame} {meth : Method} {c : Code} {Q : State → Prop} {P : SP} {D : va_G} {dA : Nat → ClassId} {base b L : Nat} {xs : Nat → Int32} {μ0 : Nat → Nat} {n0 cE sE : Nat} {F : AH} {fg : List (Nat × List Nat)} {pc : Nat} {ls st : List Value} {h : AH} (k : sm_nx p l e R s m args below meth c Q P D dA base b L xs μ0 n0 cE sE F pc (am_fg fg pc ls) st h) : sm_nx p l e R s m args below meth c Q P D dA base b L xs μ0 n0 cE sE F pc ls st h :=
  ⟨k.1, k.2.1, fun hn μ H locs cells slots A hR hL hw hS hm hc hs => k.2.2 hn μ H locs cells slots A hR (hL.fg fg pc) hw hS hm hc hs⟩
/-- what n steps of the small machine do, the machine does: in any frame of the method -/
def sm_IH (l : Launch) (D : va_G) (dA : Nat → ClassId) (base b L : Nat) (xs : Nat → Int32) (n : Nat) : Prop := ∀ (mi pc : Nat) (ls st : List Value) (h : AH) (r : Option Value × AH), am_runP am_M n mi pc ls st h = some r → mi < 166 → ∀ (p : Program) (e : Env) (R : Room) (s : State) (m : MethodId) (args : Array Value) (below : List Frame) (meth : Method) (c : Code) (Q : State → Prop) (Ts : List Cond) (μ0 : Nat → Nat) (n0 cE sE : Nat), sm_cx p R s m args meth c (sm_P mi) Ts D dA base b L xs cE sE → sm_rt p l e R s m args below meth c Q (sm_P mi) D dA base b L xs μ0 n0 cE sE r.2 (am_M mi).2.2.1 r.1 → sm_nx p l e R s m args below meth c Q (sm_P mi) D dA base b L xs μ0 n0 cE sE r.2 pc ls st h
theorem sm_row {mi : Nat} (hmi : mi < 166) : sm_zB (sm_P mi) (am_M mi).1 (sm_ps mi) = true ∧ (am_M mi).2.1 = (sm_P mi).2.2.1 ∧ sm_rB (am_M mi).2.2.1 (sm_P mi).2.2.2.1 = true := by
  have hi := sm_iB_all hmi
  unfold sm_iB at hi
  simp only [Bool.and_eq_true, decide_eq_true_eq] at hi
  exact hi
theorem sm_met {l : Launch} {D : va_G} {dA : Nat → ClassId} {base b L : Nat} {xs : Nat → Int32} {n mi : Nat} (hmi : mi < 165) (ih : sm_IH l D dA base b L xs n) {as : List Value} {h : AH} {x : Option Value × AH} (hr : am_runP am_M n mi 0 (am_entry (sm_P mi).2.2.1 as) [] h = some x) (hvo : sm_vo x.1) : sm_call l D dA base b L xs mi as h x.1 x.2 := by
  have hg := am_run_gr n mi 0 _ _ _ _ hr
  refine ⟨hg.1, hg.2, hvo, fun hwas hpl μ => ?_⟩
  obtain ⟨wC, wPl, wIn, wD, wS, wI⟩ := sm_meth hmi
  refine sm_ofW (cc := (sm_P mi).2.1) (maxL := (sm_P mi).2.2.1) (ret := (sm_P mi).2.2.2.1) wPl rfl ?_
  intro p e s m args below meth c s₁ B hml hv
  obtain ⟨rfl, q0, q1, q2, q3, q4, q5, q6⟩ := hv
  have hts := atoms_spec (ws := sm_ws (sm_P mi)) B.pre
  have hown : s.vm.findClass (sm_P mi).1.cls = some m.cls := findClass_of_methodNamed B.named
  have C : sm_cx p (headSpec (sm_ws (sm_P mi)) (sm_rm (sm_P mi) h x.2)).room s m ((as.map (sm_v μ)).toArray) meth c (sm_P mi) (sm_ws (sm_P mi)) D dA base b L xs (x.2.1.length - h.1.length) (sm_sz x.2 - sm_sz h) :=
    ⟨B.exec, B.bytes, hml, hown, hts, fun w hw => List.mem_cons_of_mem _ hw, q2, q3, q4, q5, q1, q0, fun hi => (name_of_methodNamed B.named B.method).1.trans hi, Nat.le_refl _, Nat.le_refl _, Nat.le_refl _, Nat.le_refl _⟩
  have hrt := sm_met_rt (l := l) (e := e) (below := below) (μ0 := μ) (n0 := h.1.length) (F := x.2) (rk := (am_M mi).2.2.1) (mc := 0) (ms := 0) C B.returns (sm_row (by omega)).2.2 B.notSynchronized x.1 #[]
  have k := ih mi 0 _ _ _ _ hr (by omega) p e _ s m _ below meth c _ _ μ h.1.length _ _ C hrt
  rw [lg_entry_eq]
  exact k.2.2 (Nat.le_refl _) μ s.heap [] 0 0 _ q6 (sm_entry hwas hpl) (fun v hv => by cases hv) va_S.rf (fun _ _ => rfl) (by have := hg.1; omega) (by have := hg.2; omega)
theorem sm_run {l : Launch} {D : va_G} {dA : Nat → ClassId} {base b L : Nat} {xs : Nat → Int32} : ∀ n, sm_IH l D dA base b L xs n
  | 0 => fun _ _ _ _ _ _ hr => by cases hr
  | n + 1 => by
    have ih : sm_IH l D dA base b L xs n := sm_run n
    intro mi pc ls st h r hr hmi p e R s m args below meth c Q Ts μ0 n0 cE sE C hrt
    unfold am_runP at hr
    split at hr
    · cases hr
    · rename_i q hq
      obtain ⟨hpc, z, hz⟩ := sm_zB_mem _ _ (sm_row hmi).1 pc q hq
      subst hpc
      unfold sm_eB at hz
      rw [Bool.and_eq_true] at hz
      obtain ⟨hz1, hop⟩ := hz
      split at hz1
      · rename_i i l0 hd
        simp only [Bool.and_eq_true, decide_eq_true_eq] at hz1
        obtain ⟨rfl, hnl, hlen⟩ := hz1
        have e1 := am_exe_nat (fun x : AR => x = some r) (fun pc ls st h => am_runP am_M n mi pc (am_fg (am_M mi).2.2.2 pc ls) st h) (fun mi' rk nL as pc ls st h => am_bd rk (am_runP am_M n mi' 0 (am_entry nL as) [] h) fun vs h => am_runP am_M n mi pc (am_fg (am_M mi).2.2.2 pc ls) (vs ++ st) h) (fun v h => some (v, h)) none (am_M mi).2.2.1 q.2.1 q.2.2.1 q.2.2.2.1 q.2.2.2.2.1 q.2.2.2.2.2 ls st h
        rw [hr] at e1
        have h1 := e1.mp rfl
        have hzz : ((none : AR) = some r) = False := eq_false (fun z => by cases z)
        rw [hzz] at h1
        refine sm_step (l := l) (e := e) (below := below) (Q := Q) (F := r.2) (rk := (am_M mi).2.2.1) C hd hnl.symm hlen hop ?_
        refine am_exe_imp ?_ ?_ ?_ h1
        · intro a b c d z
          exact sm_nx_fg (ih mi a _ c d r z hmi p e R s m args below meth _ Q Ts μ0 n0 cE sE C hrt)
        · intro a b c d e' g i j z
          obtain ⟨x, ha, z2, hk⟩ := am_bd_some z
          have hvo : sm_vo x.1 := by
            rw [ha] at z
            exact sm_vo_bd z
          refine ⟨x.1, x.2, fun hm165 hnL => ?_, sm_nx_fg (ih mi e' _ _ _ r z2 hmi p e R s m args below meth _ Q Ts μ0 n0 cE sE C hrt)⟩
          subst hnL
          exact sm_met hm165 ih ha hvo
        · intro v h' z
          cases z
          exact ⟨rfl, hrt⟩
      · cases hz1
