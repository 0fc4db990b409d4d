/-! THE CLAIM OUT OF ONE WALK OF THE LAW'S BODY. Your part is whole_start (and what it stands on); all else here is the same for every law, but numbers. -/
def R_law : String := "ObedientDiceLaw"
def lw_P (b : Addr) (xs : List Int32) (args : Array Value) (s : State) : Prop := args = #[.ref b] ∧ s.IntsAt b xs ∧ xs.length ≤ 260 ∧ (Jvm.Cond.and given_1 narrow_1).before args s = true
def lw_Q (_ : Array Value) (s : State) (o : Outcome) (t : State) : Prop := o = .returned (some (.int 1)) ∧ Framed s o t [] 600000 7302250
def lw_Z (below : List Frame) (a : Array Value) (s : State) : State → Prop := fun t => ∃ o, t.status = .running ∧ Ended t below o ∧ lw_Q a s o t
/-- the law's own end, with 1 on the stack, nothing written that was there before, its room as the claim has it -/
theorem lw_ret {p : Program} {l : Launch} {e : Env} {s : State} {m : MethodId} {below : List Frame} {meth : Method} {c : Code} {b : Nat} (hx : p.tables.exec = Jvm.exec) (hb : c.code = code) (hr : meth.sig.returnType = ret) (hlocks : meth.locks = false) {pc : Nat} {H : Heap} {ls : Array Slot} (hdg : decode code pc = .ok (.ireturn, 1)) : W p l e room_1 s m #[Value.ref b] below meth c H [] 600000 7302250 (lw_Z below #[Value.ref b] s) (F0 m pc ls [.int 1]) := by
  intro T hT X
  obtain ⟨fs, hret, hrun, hended, hW, hframe⟩ := X.leave (v := some (.int 1)) (hlocks := hlocks) (fun h => by rw [hr] at h; cases h)
  have hmeth' : T.vm.method? m = some meth := X.method'
  refine ⟨T.setFrames fs, ?_, .returned (some (.int 1)), hrun, hended, rfl, ⟨_, rfl⟩, hW, hframe⟩
  jvm_step X.here [X.here.top, hx, hb, hdg, hmeth', hr, ret, narrow_b1]
  (try refine ⟨rfl, ?_⟩); (try refine ⟨rfl, ?_⟩)
  first | (intro acts; rw [hret _ acts rfl rfl rfl]) | rw [hret _ _ rfl rfl rfl]
  exact Steps.refl _
/-- what holds at the law's entry: the machine, the code, the tables' words (any of lw_tbl by 'hts w (by decide +kernel)'), the script of L ints xs at the cell b, what the Statement gives of the start (any of its parts by flat_of_before) -/
def lw_At (p : Program) (s : State) (m : MethodId) (meth : Method) (c : Code) (b L : Nat) (xs : Nat → Int32) : Prop :=
  p.tables.exec = Jvm.exec ∧ c.code = code ∧ meth.sig.returnType = ret ∧ c.maxLocals = 7 ∧ s.vm.findClass R_law = some m.cls ∧ (∀ w ∈ lw_tbl, w.before #[Value.ref b] s = true) ∧ va_X b L xs s s.heap ∧ b < s.heap.size ∧ meth.locks = false ∧ (Jvm.Cond.and given_1 narrow_1).before #[Value.ref b] s = true
/-- the law's start in the small machine: the script alone -/
def am_h0 (L : Nat) (xs : Nat → Int32) : AH := ([(9, L)], fun a j => if a = 0 then xs j else 0, fun _ _ => 0, fun _ _ => none)
/-- THE LAW OVER THE SMALL MACHINE: on every script of at most 260 ints it comes to 1, within the room -/
def am_Law : Prop := ∀ (L : Nat) (xs : Nat → Int32), L ≤ 260 → ∃ F : AH, am_ev 165 0 [.ref 0, am_ph, am_ph, am_ph, am_ph, am_ph, am_ph] [] (am_h0 L xs) = some (some (.int 1), F) ∧ F.1.length ≤ 600001 ∧ sm_sz F ≤ 7302250 + L
set_option maxHeartbeats 4000000 in
set_option maxRecDepth 100000 in
theorem whole_start_of (hlaw : am_Law) {p : Program} {e : Env} {s : State} {m : MethodId} {below : List Frame} {meth : Method} {c : Code} (l : Launch) {b L : Nat} {xs : Nat → Int32} (hL : L ≤ 260) (C0 : lw_At p s m meth c b L xs) : W p l e room_1 s m #[Value.ref b] below meth c s.heap [] 0 0 (lw_Z below #[Value.ref b] s) (entryFrame m ([Value.ref b] : List Value).toArray 7) := by
  obtain ⟨hx, hb, hr, hml, hown, hts, hX, hbl, hlocks, hgv⟩ := id C0
  obtain ⟨F, hrun, hF1, hF2⟩ := hlaw L xs hL
  obtain ⟨n, hn⟩ := am_ev_iff.mp hrun
  have hgr := am_run_gr n _ _ _ _ _ _ hn
  have hz0 : sm_sz (am_h0 L xs) = L := by simp [sm_sz, am_h0]
  have hg1 : 1 ≤ F.1.length := hgr.1
  have hg2 : L ≤ sm_sz F := by have := hgr.2; rw [hz0] at this; exact this
  obtain ⟨c0, i0, k0⟩ := u_known (C := RX0) (T := TX0) (N := 11) (n := 11) hts inX0 (hts (.instantiable RX0 11) (List.mem_of_getElem? (i := 79) (by decide +kernel)))
  obtain ⟨c1, i1, k1⟩ := u_known (C := RX1) (T := TX1) (N := 9) (n := 9) hts inX1 (hts (.instantiable RX1 9) (List.mem_of_getElem? (i := 121) (by decide +kernel)))
  obtain ⟨c2, i2, k2⟩ := u_known (C := RX2) (T := TX2) (N := 5) (n := 5) hts inX2 (hts (.instantiable RX2 5) (List.mem_of_getElem? (i := 39) (by decide +kernel)))
  obtain ⟨c3, i3, k3⟩ := u_known (C := RX3) (T := TX3) (N := 6) (n := 6) hts inX3 (hts (.instantiable RX3 6) (List.mem_of_getElem? (i := 31) (by decide +kernel)))
  obtain ⟨aI, kI, mI, xI, yI, zI⟩ := Cond.arrayClass_spec (hts (.arrayClass .int) (List.mem_filter.mp sm_arrI).1)
  obtain ⟨aJ, kJ, mJ, xJ, yJ, zJ⟩ := Cond.arrayClass_spec (hts (.arrayClass .long) (List.mem_filter.mp sm_arrJ).1)
  obtain ⟨aC, kC, mC, xC, yC, zC⟩ := Cond.arrayClass_spec (hts (.arrayClass .char) (List.mem_filter.mp sm_arrC).1)
  have hao : (Cond.arrayOver (.object RX2)).before #[Value.ref b] s = true := hts (.arrayOver (.object RX2)) (List.mem_of_getElem? (i := 156) (by decide +kernel))
  obtain ⟨mS, aS, kS, s1, s2, s3, s4, s5⟩ := Cond.arrayOver_spec hao
  let D : va_G := (fun k => match k with | 0 => c0 | 1 => c1 | 2 => c2 | _ => c3, fun k => match k with | 0 => i0 | 1 => i1 | 2 => i2 | _ => i3)
  let dA : Nat → ClassId := fun k => match k with | 5 => aI | 6 => aJ | 7 => aC | _ => aS
  have hK : va_K D vwCl (sm_TY dA) s := by
    refine ⟨fun k q hq => ?_, fun k q hq => ?_⟩
    · match k, hq with
      | 0, hq => cases hq; exact k0
      | 1, hq => cases hq; exact k1
      | 2, hq => cases hq; exact k2
      | 3, hq => cases hq; exact k3
      | k + 4, hq => simp [vwCl] at hq
    · match k, hq with
      | 0, hq => cases hq; exact ⟨fun n z => ⟨fun k h => (by cases h), kI, yI, mI, zI⟩, xI⟩
      | 1, hq => cases hq; exact ⟨fun n z => ⟨fun k h => (by cases h), kJ, yJ, mJ, zJ⟩, xJ⟩
      | 2, hq => cases hq; exact ⟨fun n z => ⟨fun k h => (by cases h), kC, yC, mC, zC⟩, xC⟩
      | 3, hq => cases hq; exact ⟨fun n z => ⟨fun k h => (by cases h), kS, s3, mS, s4⟩, kS, mS, s3, s4, s1, s5⟩
      | k + 4, hq => simp [sm_TY] at hq
  have hNT : ∀ w ∈ sm_NT, va_Nw w s := by
    intro w hw
    have h1 := (List.mem_filter.mp hw).2
    have h2 := hts w (List.mem_filter.mp hw).1
    unfold sm_isN at h1
    split at h1
    · exact va_Nw.of rfl h2
    · cases h1
  have C : sm_cx p room_1 s m #[Value.ref b] meth c (sm_P 165) lw_tbl D dA s.heap.size b L xs (F.1.length - 1) (sm_sz F - L) :=
    ⟨hx, hb, hml, hown, hts, fun w hw => (List.mem_filter.mp hw).1, hNT, va_AO.of hao, hK, hX, hbl, Nat.le_refl _, fun hi => absurd hi (by decide), Nat.le_of_ble_eq_true rfl, Nat.le_of_ble_eq_true rfl, (by show F.1.length - 1 ≤ 600000; omega), (by show sm_sz F - L ≤ 7302250; omega)⟩
  have hrt : sm_rt p l e room_1 s m #[Value.ref b] below meth c (lw_Z below #[Value.ref b] s) (sm_P 165) D dA s.heap.size b L xs (fun _ => b) 1 (F.1.length - 1) (sm_sz F - L) F (am_M 165).2.2.1 (some (.int 1)) := by
    intro i pc μ H locs A hd hi hn1 hR hS hm hw
    rcases hi with ⟨z, -⟩ | ⟨x, z, rfl, -⟩ | ⟨x, z, -⟩ | ⟨x, z, -⟩
    · cases z
    · cases z
      refine W.widen (k := 600000) (n := 7302250) (by omega) (by omega) ?_
      exact va_forget hS.2.2 (lw_ret hx hb hr hlocks hd)
    · cases z
    · cases z
  have k := sm_run (l := l) (D := D) (dA := dA) (base := s.heap.size) (b := b) (L := L) (xs := xs) n 165 0 _ _ _ _ hn (by omega) p e room_1 s m #[Value.ref b] below meth c (lw_Z below #[Value.ref b] s) lw_tbl (fun _ => b) 1 _ _ C hrt
  rw [lg_entry_eq]
  have hwas : ∀ w ∈ [Value.ref 0], sm_wv (am_h0 L xs).1.length w := fun w hw => by
    rcases List.mem_cons.mp hw with rfl | hw
    · exact sm_wv_r (by show 0 < 1; omega)
    · cases hw
  refine k.2.2 (Nat.le_refl 1) (fun _ => b) s.heap [] 0 0 _ ⟨fun k q h => ?_, ⟨fun i j p q h => ?_, fun k q h => ?_⟩, rfl, ⟨rfl, fun j => rfl, fun a ha hl => ?_, fun a j c hc => ?_⟩⟩ (sm_entry (μ := fun _ => b) (n := 1) (nL := 7) (as := [.ref 0]) hwas (by decide)) (fun v hv => by cases hv) va_S.rf (fun _ _ => rfl) ?_ ?_
  · simp [sm_wl, am_h0] at h
  · simp [sm_wl, am_h0] at h
  · simp [sm_wl, am_h0] at h
  · simp [am_h0] at hl; omega
  · cases hc
  · show 0 + F.1.length = (F.1.length - 1) + 1
    omega
  · show 0 + sm_sz F = (sm_sz F - L) + sm_sz (am_h0 L xs)
    rw [hz0]
    omega
