/-! ===== new cells, arrays ===== -/
theorem sm_arrI : Cond.arrayClass .int ∈ sm_GT := List.mem_filter.mpr ⟨List.mem_of_getElem? (i := 77) (by decide +kernel), rfl⟩
theorem sm_arrJ : Cond.arrayClass .long ∈ sm_GT := List.mem_filter.mpr ⟨List.mem_of_getElem? (i := 119) (by decide +kernel), rfl⟩
theorem sm_arrC : Cond.arrayClass .char ∈ sm_GT := List.mem_filter.mpr ⟨List.mem_of_getElem? (i := 155) (by decide +kernel), rfl⟩
theorem sm_upd (f : Nat → Int32) (k : Nat) (x : Int32) : upd f k x = am_ud f k x := rfl
theorem sm_updL (f : Nat → Int64) (k : Nat) (x : Int64) : vp_updL f k x = am_ud f k x := rfl
section arrays
variable {p : Program} {l : Launch} {e : Env} {R : Room} {s : State} {m : MethodId} {args : Array Value} {below : List Frame} {meth : Method} {c : Code} {Q : State → Prop}
variable {P : SP} {Ts : List Cond} {D : va_G} {dA : Nat → ClassId} {base b L : Nat} {xs : Nat → Int32} {μ0 : Nat → Nat} {n0 cE sE : Nat} {F : AH}
variable {CL : Nat → Nat → Nat → List Value → Nat → List Value → List Value → AH → Prop} {RT : Option Value → AH → Prop} {rk : Nat} {ts : List Nat} {cv : Int32} {cj : Int64} {ls st : List Value} {h : AH} {pc : Nat}
/-- behind a new cell: the next state's world, locals and stack -/
theorem sm_born {k n q : Nat} {μ : Nat → Nat} {H1 : Heap} {A : Array Slot} {Ev : va_E} (hn : n0 ≤ h.1.length) (hR : va_P D vwCl (sm_wl dA μ h ++ [(q, Ev)]) H1 ∧ va_D (fun q => base ≤ q) (sm_wl dA μ h ++ [(q, Ev)]) ∧ μ 0 = b ∧ sm_WF L xs h) (hk : k < 9) (hkn : k < 5 → n = sm_nf k) (hE : sm_E dA (am_ud μ h.1.length q) (am_nw h k n) h.1.length = Ev) (hL : sm_L μ h.1.length P.2.2.1 ls A) (hw : ∀ v ∈ st, sm_wv h.1.length v) (hm : ∀ a, a < n0 → μ a = μ0 a) :
    sm_R D dA base b L xs (am_ud μ h.1.length q) (am_nw h k n) H1 ∧ sm_L (am_ud μ h.1.length q) (am_nw h k n).1.length P.2.2.1 ls A ∧ (∀ v ∈ Value.ref h.1.length :: st, sm_wv (am_nw h k n).1.length v) ∧ (∀ a, a < n0 → am_ud μ h.1.length q a = μ0 a) ∧ (Value.ref h.1.length :: st).map (sm_v (am_ud μ h.1.length q)) = .ref q :: st.map (sm_v μ) := by
  have h1 := hR.2.2.2.one
  have hlt : ∀ a, a < h.1.length → am_ud μ h.1.length q a = μ a := fun a ha => am_ud_ne (by omega)
  refine ⟨⟨?_, ?_, (hlt 0 (by omega)).trans hR.2.2.1, hR.2.2.2.nw hk hkn⟩, hL.mono (by rw [sm_ln_nw]; omega) hlt, sm_wc (sm_wv_r (by rw [sm_ln_nw]; omega)) (sm_wm (by rw [sm_ln_nw]; omega) hw), fun a ha => (hlt a (by omega)).trans (hm a ha), ?_⟩
  · rw [sm_wl_nw h1 hR.2.2.2.2.2.2, hE]
    exact hR.1
  · rw [sm_wl_nw h1 hR.2.2.2.2.2.2, hE]
    exact hR.2.1
  · rw [List.map_cons, sm_map_ext hlt hw]
    show Value.ref (am_ud μ h.1.length q h.1.length) :: _ = _
    rw [am_ud_eq]
theorem sm_x_new (C : sm_cx p R s m args meth c P Ts D dA base b L xs cE sE) {idx ci nf : Nat} {r : vw_C} (hr : vwCl[ci]? = some r) (hnf : nf = r.2.2) (hlk : Cond.classLink P.1.cls idx r.1 ∈ sm_GT) (hd : decode P.2.1 pc = .ok (.new idx, 3)) (h1 : am_x_new (sm_nx p l e R s m args below meth c Q P D dA base b L xs μ0 n0 cE sE F) CL RT False rk (pc + 3) [ci, nf] cv cj ls st h) : sm_nx p l e R s m args below meth c Q P D dA base b L xs μ0 n0 cE sE F pc ls st h := by
  obtain ⟨hx, hb, hml, hown, hts, hG, hNT, hAO, hK, hX, hbb, hbs, hin, hfr, hlo, hcE, hsE⟩ := C
  unfold am_x_new at h1
  have k : sm_nx p l e R s m args below meth c Q P D dA base b L xs μ0 n0 cE sE F (pc + 3) ls (.ref h.1.length :: st) (am_nw h ci nf) := h1
  have hcl := sm_cls hr
  have kl := k.1
  have ks := k.2.1
  rw [sm_ln_nw] at kl
  rw [sm_sz_nw] at ks
  refine ⟨by omega, by omega, fun hn μ H locs cells slots A hR hL hw hS hm hc hs => ?_⟩
  have hdv : ∀ j, j < r.2.2 → sm_fv (fun _ => 0) (am_nw h ci nf) ci h.1.length j = defaultValue (sm_tyf ci j) ∧ ∀ μ : Nat → Nat, sm_fv μ (am_nw h ci nf) ci h.1.length j = defaultValue (sm_tyf ci j) := by
    intro j hj
    have key : ∀ μ : Nat → Nat, sm_fv μ (am_nw h ci nf) ci h.1.length j = defaultValue (sm_tyf ci j) := by
      intro μ
      obtain ⟨t0, t2, t1, tl⟩ := hcl.2.2.2.2.2.2.2.2 j hj
      unfold sm_fv
      rw [show am_R (am_nw h ci nf) h.1.length = fun _ => none from am_ud_eq, show am_I (am_nw h ci nf) h.1.length = fun _ => 0 from am_ud_eq]
      rcases (show sm_ft ci j = 0 ∨ sm_ft ci j = 1 ∨ sm_ft ci j = 2 by omega) with e | e | e
      · rw [t0 e, e]; rfl
      · rw [if_pos e]
        rcases t1 e with ⟨nm, e2⟩ | ⟨nm, e2⟩ <;> rw [e2] <;> rfl
      · rw [t2 e, e]; rfl
    exact ⟨key _, key⟩
  refine va_new (N := r.2.2) (T := r.2.1) (C := r.1) (fs := (List.range r.2.2).map (fun j => defaultValue (sm_tyf ci j))) hx hb hts (fun w z => hG w (hcl.2.2.2.1 w z)) (sm_tyf ci) hcl.2.2.2.2.1 hown (hts _ (hG _ hlk)) (hts _ (hG _ hcl.2.2.2.2.2.2.1)) (hts _ (hG _ hcl.2.2.2.2.2.2.2.1)) hK hR.1 hR.2.1 hS (fun q z => Nat.le_trans hbs z) hr (fun j hj => ?_) (by omega) (by omega) hd (fun q H1 hP1 hD1 hS1 => ?_)
  · unfold vp_V
    rw [List.getD_eq_getElem?_getD, List.getElem?_map, List.getElem?_range hj]
    rfl
  · obtain ⟨g1, g2, g3, g4, g5⟩ := sm_born (P := P) (μ0 := μ0) (n0 := n0) (dA := dA) (k := ci) (n := nf) (q := q) hn ⟨hP1, hD1, hR.2.2.1, hR.2.2.2⟩ (by have := hcl.1; omega) (fun _ => by rw [hnf]; exact hcl.2.2.1) (by
      unfold sm_E
      rw [sm_kd_nw0.1, sm_kd_nw0.2, if_pos hcl.1, hnf]
      congr 2
      apply List.map_congr_left
      intro j hj
      subst hnf
      exact (hdv j (List.mem_range.mp hj)).2 _) hL hw hm
    have := k.2.2 (by rw [sm_ln_nw]; omega) _ H1 locs (cells + 1) (slots + r.2.2) A g1 g2 g3 hS1 g4 (by rw [sm_ln_nw]; omega) (by rw [sm_sz_nw, hnf]; omega)
    rw [g5] at this
    exact this
theorem sm_x_newarrI (C : sm_cx p R s m args meth c P Ts D dA base b L xs cE sE) {t : ArrayType} (ht : newarray.typeOf t = .int) (hd : decode P.2.1 pc = .ok (.newarray t, 2)) (h1 : am_x_newarray (sm_nx p l e R s m args below meth c Q P D dA base b L xs μ0 n0 cE sE F) CL RT False rk (pc + 2) [5] cv cj ls st h) : sm_nx p l e R s m args below meth c Q P D dA base b L xs μ0 n0 cE sE F pc ls st h := by
  obtain ⟨hx, hb, hml, hown, hts, hG, hNT, hAO, hK, hX, hbb, hbs, hin, hfr, hlo, hcE, hsE⟩ := C
  unfold am_x_newarray at h1
  obtain ⟨x, r2, e, k⟩ := am_i1_ex h1
  subst e
  by_cases hxn : x < 0 ∨ 1000 < x.toNatClampNeg
  · rw [if_pos hxn] at k
    exact k.elim
  rw [if_neg hxn] at k
  have hx0 : ¬ x < 0 := fun z => hxn (Or.inl z)
  have hx1 : x.toNatClampNeg ≤ 1000 := Nat.not_lt.mp fun z => hxn (Or.inr z)
  have kl := k.1
  have ks := k.2.1
  rw [sm_ln_nw] at kl
  rw [sm_sz_nw] at ks
  refine ⟨by omega, by omega, fun hn μ H locs cells slots A hR hL hw hS hm hc hs => ?_⟩
  refine va_newa (atype := t) (ty := .int) (a0 := (x.toNatClampNeg, .inl (fun _ => 0))) hx hb (by rw [ht]; exact hts _ (hG _ sm_arrI)) ht hK hR.1 hR.2.1 hS (fun q z => Nat.le_trans hbs z) (fun cA => rfl) hx0 rfl (by show _ * 4 ≤ _; omega) (by omega) (by omega) hd (fun q cA H1 hK1 hP1 hD1 hS1 => ?_)
  have e1 : s.vm.findClass ("[" ++ (.int : FieldType).toString) = some cA := (hK1.2 4 (cA, .int) rfl).2
  have e2 : s.vm.findClass ("[" ++ (.int : FieldType).toString) = some (dA 5) := (hK.2 0 (dA 5, .int) rfl).2
  have e3 : cA = dA 5 := Option.some.inj (e1.symm.trans e2)
  subst e3
  obtain ⟨g1, g2, g3, g4, g5⟩ := sm_born (P := P) (μ0 := μ0) (n0 := n0) (k := 5) (n := x.toNatClampNeg) (q := q) hn ⟨hP1, hD1, hR.2.2.1, hR.2.2.2⟩ (by omega) (fun z => by omega) (by
    unfold sm_E
    rw [sm_kd_nw0.1, sm_kd_nw0.2, if_neg (by omega)]
    rw [show am_I (am_nw h 5 x.toNatClampNeg) h.1.length = fun _ => 0 from am_ud_eq, show am_J (am_nw h 5 x.toNatClampNeg) h.1.length = fun _ => 0 from am_ud_eq]
    rfl) hL (sm_wt hw) hm
  have := k.2.2 (by rw [sm_ln_nw]; omega) _ H1 locs (cells + 1) (slots + x.toNatClampNeg) A g1 g2 g3 hS1 g4 (by rw [sm_ln_nw]; omega) (by rw [sm_sz_nw]; omega)
  rw [g5] at this
  exact this
theorem sm_x_newarrJ (C : sm_cx p R s m args meth c P Ts D dA base b L xs cE sE) {t : ArrayType} (ht : newarray.typeOf t = .long) (hd : decode P.2.1 pc = .ok (.newarray t, 2)) (h1 : am_x_newarray (sm_nx p l e R s m args below meth c Q P D dA base b L xs μ0 n0 cE sE F) CL RT False rk (pc + 2) [6] cv cj ls st h) : sm_nx p l e R s m args below meth c Q P D dA base b L xs μ0 n0 cE sE F pc ls st h := by
  obtain ⟨hx, hb, hml, hown, hts, hG, hNT, hAO, hK, hX, hbb, hbs, hin, hfr, hlo, hcE, hsE⟩ := C
  unfold am_x_newarray at h1
  obtain ⟨x, r2, e, k⟩ := am_i1_ex h1
  subst e
  by_cases hxn : x < 0 ∨ 1000 < x.toNatClampNeg
  · rw [if_pos hxn] at k
    exact k.elim
  rw [if_neg hxn] at k
  have hx0 : ¬ x < 0 := fun z => hxn (Or.inl z)
  have hx1 : x.toNatClampNeg ≤ 1000 := Nat.not_lt.mp fun z => hxn (Or.inr z)
  have kl := k.1
  have ks := k.2.1
  rw [sm_ln_nw] at kl
  rw [sm_sz_nw] at ks
  refine ⟨by omega, by omega, fun hn μ H locs cells slots A hR hL hw hS hm hc hs => ?_⟩
  refine va_newa (atype := t) (ty := .long) (a0 := (x.toNatClampNeg, .inr (.inl (fun _ => 0)))) hx hb (by rw [ht]; exact hts _ (hG _ sm_arrJ)) ht hK hR.1 hR.2.1 hS (fun q z => Nat.le_trans hbs z) (fun cA => rfl) hx0 rfl (by show _ * 8 ≤ _; omega) (by omega) (by omega) hd (fun q cA H1 hK1 hP1 hD1 hS1 => ?_)
  have e1 : s.vm.findClass ("[" ++ (.long : FieldType).toString) = some cA := (hK1.2 4 (cA, .long) rfl).2
  have e2 : s.vm.findClass ("[" ++ (.long : FieldType).toString) = some (dA 6) := (hK.2 1 (dA 6, .long) rfl).2
  have e3 : cA = dA 6 := Option.some.inj (e1.symm.trans e2)
  subst e3
  obtain ⟨g1, g2, g3, g4, g5⟩ := sm_born (P := P) (μ0 := μ0) (n0 := n0) (k := 6) (n := x.toNatClampNeg) (q := q) hn ⟨hP1, hD1, hR.2.2.1, hR.2.2.2⟩ (by omega) (fun z => by omega) (by
    unfold sm_E
    rw [sm_kd_nw0.1, sm_kd_nw0.2, if_neg (by omega)]
    rw [show am_I (am_nw h 6 x.toNatClampNeg) h.1.length = fun _ => 0 from am_ud_eq, show am_J (am_nw h 6 x.toNatClampNeg) h.1.length = fun _ => 0 from am_ud_eq]
    rfl) hL (sm_wt hw) hm
  have := k.2.2 (by rw [sm_ln_nw]; omega) _ H1 locs (cells + 1) (slots + x.toNatClampNeg) A g1 g2 g3 hS1 g4 (by rw [sm_ln_nw]; omega) (by rw [sm_sz_nw]; omega)
  rw [g5] at this
  exact this
theorem sm_x_newarrC (C : sm_cx p R s m args meth c P Ts D dA base b L xs cE sE) {t : ArrayType} (ht : newarray.typeOf t = .char) (hd : decode P.2.1 pc = .ok (.newarray t, 2)) (h1 : am_x_newarray (sm_nx p l e R s m args below meth c Q P D dA base b L xs μ0 n0 cE sE F) CL RT False rk (pc + 2) [7] cv cj ls st h) : sm_nx p l e R s m args below meth c Q P D dA base b L xs μ0 n0 cE sE F pc ls st h := by
  obtain ⟨hx, hb, hml, hown, hts, hG, hNT, hAO, hK, hX, hbb, hbs, hin, hfr, hlo, hcE, hsE⟩ := C
  unfold am_x_newarray at h1
  obtain ⟨x, r2, e, k⟩ := am_i1_ex h1
  subst e
  by_cases hxn : x < 0 ∨ 1000 < x.toNatClampNeg
  · rw [if_pos hxn] at k
    exact k.elim
  rw [if_neg hxn] at k
  have hx0 : ¬ x < 0 := fun z => hxn (Or.inl z)
  have hx1 : x.toNatClampNeg ≤ 1000 := Nat.not_lt.mp fun z => hxn (Or.inr z)
  have kl := k.1
  have ks := k.2.1
  rw [sm_ln_nw] at kl
  rw [sm_sz_nw] at ks
  refine ⟨by omega, by omega, fun hn μ H locs cells slots A hR hL hw hS hm hc hs => ?_⟩
  refine va_newa (atype := t) (ty := .char) (a0 := (x.toNatClampNeg, .inl (fun _ => 0))) hx hb (by rw [ht]; exact hts _ (hG _ sm_arrC)) ht hK hR.1 hR.2.1 hS (fun q z => Nat.le_trans hbs z) (fun cA => rfl) hx0 rfl (by show _ * 2 ≤ _; omega) (by omega) (by omega) hd (fun q cA H1 hK1 hP1 hD1 hS1 => ?_)
  have e1 : s.vm.findClass ("[" ++ (.char : FieldType).toString) = some cA := (hK1.2 4 (cA, .char) rfl).2
  have e2 : s.vm.findClass ("[" ++ (.char : FieldType).toString) = some (dA 7) := (hK.2 2 (dA 7, .char) rfl).2
  have e3 : cA = dA 7 := Option.some.inj (e1.symm.trans e2)
  subst e3
  obtain ⟨g1, g2, g3, g4, g5⟩ := sm_born (P := P) (μ0 := μ0) (n0 := n0) (k := 7) (n := x.toNatClampNeg) (q := q) hn ⟨hP1, hD1, hR.2.2.1, hR.2.2.2⟩ (by omega) (fun z => by omega) (by
    unfold sm_E
    rw [sm_kd_nw0.1, sm_kd_nw0.2, if_neg (by omega)]
    rw [show am_I (am_nw h 7 x.toNatClampNeg) h.1.length = fun _ => 0 from am_ud_eq, show am_J (am_nw h 7 x.toNatClampNeg) h.1.length = fun _ => 0 from am_ud_eq]
    rfl) hL (sm_wt hw) hm
  have := k.2.2 (by rw [sm_ln_nw]; omega) _ H1 locs (cells + 1) (slots + x.toNatClampNeg) A g1 g2 g3 hS1 g4 (by rw [sm_ln_nw]; omega) (by rw [sm_sz_nw]; omega)
  rw [g5] at this
  exact this
theorem sm_x_anewarray (C : sm_cx p R s m args meth c P Ts D dA base b L xs cE sE) {idx : Nat} (hlk : Cond.classLink P.1.cls idx RX2 ∈ sm_GT) (hd : decode P.2.1 pc = .ok (.anewarray idx, 3)) (h1 : am_x_anewarray (sm_nx p l e R s m args below meth c Q P D dA base b L xs μ0 n0 cE sE F) CL RT False rk (pc + 3) ts cv cj ls st h) : sm_nx p l e R s m args below meth c Q P D dA base b L xs μ0 n0 cE sE F pc ls st h := by
  obtain ⟨hx, hb, hml, hown, hts, hG, hNT, hAO, hK, hX, hbb, hbs, hin, hfr, hlo, hcE, hsE⟩ := C
  unfold am_x_anewarray at h1
  obtain ⟨x, r2, e, k⟩ := am_i1_ex h1
  subst e
  by_cases hxn : x < 0 ∨ 1000 < x.toNatClampNeg
  · rw [if_pos hxn] at k
    exact k.elim
  rw [if_neg hxn] at k
  have hx0 : ¬ x < 0 := fun z => hxn (Or.inl z)
  have hx1 : x.toNatClampNeg ≤ 1000 := Nat.not_lt.mp fun z => hxn (Or.inr z)
  have kl := k.1
  have ks := k.2.1
  rw [sm_ln_nw] at kl
  rw [sm_sz_nw] at ks
  refine ⟨by omega, by omega, fun hn μ H locs cells slots A hR hL hw hS hm hc hs => ?_⟩
  refine va_newq hx hb hown (hts _ (hG _ hlk)) hAO hK hR.1 hR.2.1 hS (fun q z => Nat.le_trans hbs z) hx0 rfl (by omega) (by omega) (by omega) hd (fun q cA H1 hK1 hP1 hD1 hS1 => ?_)
  obtain ⟨_, _, _, _, _, e1⟩ := (hK1.2 4 (cA, .object RX2) rfl).2
  obtain ⟨_, _, _, _, _, e2⟩ := (hK.2 3 (dA 8, .object RX2) rfl).2
  have e3 : cA = dA 8 := Option.some.inj (e1.symm.trans e2)
  subst e3
  obtain ⟨g1, g2, g3, g4, g5⟩ := sm_born (P := P) (μ0 := μ0) (n0 := n0) (k := 8) (n := x.toNatClampNeg) (q := q) hn ⟨hP1, hD1, hR.2.2.1, hR.2.2.2⟩ (by omega) (fun z => by omega) (by
    unfold sm_E
    rw [sm_kd_nw0.1, sm_kd_nw0.2, if_neg (by omega)]
    rw [show am_R (am_nw h 8 x.toNatClampNeg) h.1.length = fun _ => none from am_ud_eq]
    rfl) hL (sm_wt hw) hm
  have := k.2.2 (by rw [sm_ln_nw]; omega) _ H1 locs (cells + 1) (slots + x.toNatClampNeg) A g1 g2 g3 hS1 g4 (by rw [sm_ln_nw]; omega) (by rw [sm_sz_nw]; omega)
  rw [g5] at this
  exact this
theorem sm_scr {a : Nat} (w : sm_WF L xs h) (hk : am_kd h a = 9) : a = 0 ∧ am_ln h a = L := by
  have h1 := sm_kd_lt hk (by omega)
  have h0 : a = 0 := by
    rcases Nat.eq_zero_or_pos a with q | q
    · exact q
    · have := (w.2.2.1 a q h1).1
      omega
  subst h0
  refine ⟨rfl, ?_⟩
  unfold am_ln
  rw [List.getD_eq_getElem?_getD, w.1]
  rfl
theorem sm_x_arraylength (C : sm_cx p R s m args meth c P Ts D dA base b L xs cE sE) (hd : decode P.2.1 pc = .ok (.arraylength, 1)) (h1 : am_x_arraylength (sm_nx p l e R s m args below meth c Q P D dA base b L xs μ0 n0 cE sE F) CL RT False rk (pc + 1) ts cv cj ls st h) : sm_nx p l e R s m args below meth c Q P D dA base b L xs μ0 n0 cE sE F pc ls st h := by
  obtain ⟨hx, hb, hml, hown, hts, hG, hNT, hAO, hK, hX, hbb, hbs, hin, hfr, hlo, hcE, hsE⟩ := C
  unfold am_x_arraylength at h1
  obtain ⟨a, r2, e, k⟩ := am_r1_ex h1
  subst e
  by_cases hk : 5 ≤ am_kd h a ∧ am_kd h a ≤ 9
  · rw [if_pos hk] at k
    refine ⟨k.1, k.2.1, fun hn μ H locs cells slots A hR hL hw hS hm hc hs => ?_⟩
    by_cases h9 : am_kd h a = 9
    · obtain ⟨rfl, hl⟩ := sm_scr hR.2.2.2 h9
      show W p l e R s m args below meth c H locs cells slots Q (F0 m pc A (.ref (μ 0) :: r2.map (sm_v μ)))
      rw [hR.2.2.1]
      refine va_slen hx hb hX (by omega) (by omega) hS hd ?_
      rw [hl] at k
      exact (k.2.2 hn μ H locs cells slots A hR hL (sm_wc sm_wv_i (sm_wt hw)) hS hm hc hs)
    · obtain ⟨⟨h0, h1'⟩, he⟩ := sm_wl_arr (dA := dA) (μ := μ) hR.2.2.2 rfl hk.1 (by omega)
      have hty : ∃ (t0 : Nat) (ty : FieldType), (sm_TY dA)[t0]? = some (dA (am_kd h a), ty) := by
        rcases (show am_kd h a = 5 ∨ am_kd h a = 6 ∨ am_kd h a = 7 ∨ am_kd h a = 8 by omega) with z | z | z | z <;> rw [z]
        · exact ⟨0, _, rfl⟩
        · exact ⟨1, _, rfl⟩
        · exact ⟨2, _, rfl⟩
        · exact ⟨3, _, rfl⟩
      obtain ⟨t0, ty, ht⟩ := hty
      exact va_alen hx hb hK hR.1 (a - 1) t0 he ht rfl hd (k.2.2 hn μ H locs cells slots A hR hL (sm_wc sm_wv_i (sm_wt hw)) hS hm hc hs)
  · rw [if_neg hk] at k
    exact k.elim
theorem sm_x_iaload (C : sm_cx p R s m args meth c P Ts D dA base b L xs cE sE) (hd : decode P.2.1 pc = .ok (.iaload, 1)) (h1 : am_x_iaload (sm_nx p l e R s m args below meth c Q P D dA base b L xs μ0 n0 cE sE F) CL RT False rk (pc + 1) ts cv cj ls st h) : sm_nx p l e R s m args below meth c Q P D dA base b L xs μ0 n0 cE sE F pc ls st h := by
  obtain ⟨hx, hb, hml, hown, hts, hG, hNT, hAO, hK, hX, hbb, hbs, hin, hfr, hlo, hcE, hsE⟩ := C
  unfold am_x_iaload at h1
  obtain ⟨a, x, r2, e, k⟩ := am_ai_ex h1
  subst e
  by_cases hk : (am_kd h a = 5 ∨ am_kd h a = 9) ∧ ¬ (x < 0 ∨ am_ln h a ≤ x.toNatClampNeg)
  · rw [if_pos hk] at k
    refine ⟨k.1, k.2.1, fun hn μ H locs cells slots A hR hL hw hS hm hc hs => ?_⟩
    rcases hk with ⟨h5 | h9, hin2⟩
    · obtain ⟨⟨h0, h1'⟩, he⟩ := sm_wl_arr (dA := dA) (μ := μ) hR.2.2.2 h5 (by omega) (by omega)
      exact va_iald hx hb hK hR.1 (a - 1) 0 he rfl hin2 hd (k.2.2 hn μ H locs cells slots A hR hL (sm_wc sm_wv_i (sm_wt (sm_wt hw))) hS hm hc hs)
    · obtain ⟨rfl, hl⟩ := sm_scr hR.2.2.2 h9
      show W p l e R s m args below meth c H locs cells slots Q (F0 m pc A (.int x :: .ref (μ 0) :: r2.map (sm_v μ)))
      rw [hR.2.2.1]
      rw [hl] at hin2
      refine va_sld hx hb hX (by omega) (by omega) hS hin2 hd ?_
      rw [hR.2.2.2.2.1] at k
      exact (k.2.2 hn μ H locs cells slots A hR hL (sm_wc sm_wv_i (sm_wt (sm_wt hw))) hS hm hc hs)
  · rw [if_neg hk] at k
    exact k.elim
theorem sm_x_laload (C : sm_cx p R s m args meth c P Ts D dA base b L xs cE sE) (hd : decode P.2.1 pc = .ok (.laload, 1)) (h1 : am_x_laload (sm_nx p l e R s m args below meth c Q P D dA base b L xs μ0 n0 cE sE F) CL RT False rk (pc + 1) ts cv cj ls st h) : sm_nx p l e R s m args below meth c Q P D dA base b L xs μ0 n0 cE sE F pc ls st h := by
  obtain ⟨hx, hb, hml, hown, hts, hG, hNT, hAO, hK, hX, hbb, hbs, hin, hfr, hlo, hcE, hsE⟩ := C
  unfold am_x_laload at h1
  obtain ⟨a, x, r2, e, k⟩ := am_ai_ex h1
  subst e
  by_cases hk : am_kd h a = 6 ∧ ¬ (x < 0 ∨ am_ln h a ≤ x.toNatClampNeg)
  · rw [if_pos hk] at k
    refine ⟨k.1, k.2.1, fun hn μ H locs cells slots A hR hL hw hS hm hc hs => ?_⟩
    obtain ⟨⟨h0, h1'⟩, he⟩ := sm_wl_arr (dA := dA) (μ := μ) hR.2.2.2 hk.1 (by omega) (by omega)
    exact va_lald hx hb hK hR.1 (a - 1) 1 he rfl hk.2 hd (k.2.2 hn μ H locs cells slots A hR hL (sm_wc sm_wv_l (sm_wt (sm_wt hw))) hS hm hc hs)
  · rw [if_neg hk] at k
    exact k.elim
theorem sm_x_caload (C : sm_cx p R s m args meth c P Ts D dA base b L xs cE sE) (hd : decode P.2.1 pc = .ok (.caload, 1)) (h1 : am_x_caload (sm_nx p l e R s m args below meth c Q P D dA base b L xs μ0 n0 cE sE F) CL RT False rk (pc + 1) ts cv cj ls st h) : sm_nx p l e R s m args below meth c Q P D dA base b L xs μ0 n0 cE sE F pc ls st h := by
  obtain ⟨hx, hb, hml, hown, hts, hG, hNT, hAO, hK, hX, hbb, hbs, hin, hfr, hlo, hcE, hsE⟩ := C
  unfold am_x_caload at h1
  obtain ⟨a, x, r2, e, k⟩ := am_ai_ex h1
  subst e
  by_cases hk : am_kd h a = 7 ∧ ¬ (x < 0 ∨ am_ln h a ≤ x.toNatClampNeg)
  · rw [if_pos hk] at k
    refine ⟨k.1, k.2.1, fun hn μ H locs cells slots A hR hL hw hS hm hc hs => ?_⟩
    obtain ⟨⟨h0, h1'⟩, he⟩ := sm_wl_arr (dA := dA) (μ := μ) hR.2.2.2 hk.1 (by omega) (by omega)
    exact va_cald hx hb hK hR.1 (a - 1) 2 he rfl hk.2 hd (k.2.2 hn μ H locs cells slots A hR hL (sm_wc sm_wv_i (sm_wt (sm_wt hw))) hS hm hc hs)
  · rw [if_neg hk] at k
    exact k.elim
theorem sm_x_aaload (C : sm_cx p R s m args meth c P Ts D dA base b L xs cE sE) (hd : decode P.2.1 pc = .ok (.aaload, 1)) (h1 : am_x_aaload (sm_nx p l e R s m args below meth c Q P D dA base b L xs μ0 n0 cE sE F) CL RT False rk (pc + 1) ts cv cj ls st h) : sm_nx p l e R s m args below meth c Q P D dA base b L xs μ0 n0 cE sE F pc ls st h := by
  obtain ⟨hx, hb, hml, hown, hts, hG, hNT, hAO, hK, hX, hbb, hbs, hin, hfr, hlo, hcE, hsE⟩ := C
  unfold am_x_aaload at h1
  obtain ⟨a, x, r2, e, k⟩ := am_ai_ex h1
  subst e
  by_cases hk : am_kd h a = 8 ∧ ¬ (x < 0 ∨ am_ln h a ≤ x.toNatClampNeg)
  · rw [if_pos hk] at k
    cases ho : am_R h a x.toNatClampNeg with
    | none =>
      rw [ho] at k
      have k : sm_nx p l e R s m args below meth c Q P D dA base b L xs μ0 n0 cE sE F (pc + 1) ls (.null :: r2) h := k
      refine ⟨k.1, k.2.1, fun hn μ H locs cells slots A hR hL hw hS hm hc hs => ?_⟩
      obtain ⟨⟨h0, h1'⟩, he⟩ := sm_wl_arr (dA := dA) (μ := μ) hR.2.2.2 hk.1 (by omega) (by omega)
      refine va_aldq hx hb hK hR.1 (a - 1) 3 he rfl hk.2 hd ?_
      show W p l e R s m args below meth c H locs cells slots Q (F0 m (pc + 1) A (va_rf ((am_R h a x.toNatClampNeg).map μ) :: r2.map (sm_v μ)))
      rw [ho]
      exact (k.2.2 hn μ H locs cells slots A hR hL (sm_wc sm_wv_n (sm_wt (sm_wt hw))) hS hm hc hs)
    | some d =>
      rw [ho] at k
      have k : sm_nx p l e R s m args below meth c Q P D dA base b L xs μ0 n0 cE sE F (pc + 1) ls (.ref d :: r2) h := k
      refine ⟨k.1, k.2.1, fun hn μ H locs cells slots A hR hL hw hS hm hc hs => ?_⟩
      obtain ⟨⟨h0, h1'⟩, he⟩ := sm_wl_arr (dA := dA) (μ := μ) hR.2.2.2 hk.1 (by omega) (by omega)
      refine va_aldq hx hb hK hR.1 (a - 1) 3 he rfl hk.2 hd ?_
      show W p l e R s m args below meth c H locs cells slots Q (F0 m (pc + 1) A (va_rf ((am_R h a x.toNatClampNeg).map μ) :: r2.map (sm_v μ)))
      rw [ho]
      exact (k.2.2 hn μ H locs cells slots A hR hL (sm_wc (sm_wv_r (hR.2.2.2.2.2.2 _ _ _ ho)) (sm_wt (sm_wt hw))) hS hm hc hs)
  · rw [if_neg hk] at k
    exact k.elim
theorem sm_x_iastore (C : sm_cx p R s m args meth c P Ts D dA base b L xs cE sE) (hd : decode P.2.1 pc = .ok (.iastore, 1)) (h1 : am_x_iastore (sm_nx p l e R s m args below meth c Q P D dA base b L xs μ0 n0 cE sE F) CL RT False rk (pc + 1) ts cv cj ls st h) : sm_nx p l e R s m args below meth c Q P D dA base b L xs μ0 n0 cE sE F pc ls st h := by
  obtain ⟨hx, hb, hml, hown, hts, hG, hNT, hAO, hK, hX, hbb, hbs, hin, hfr, hlo, hcE, hsE⟩ := C
  unfold am_x_iastore at h1
  obtain ⟨a, x, v, r2, e, k⟩ := am_aii_ex h1
  subst e
  by_cases hk : am_kd h a = 5 ∧ ¬ (x < 0 ∨ am_ln h a ≤ x.toNatClampNeg)
  · rw [if_pos hk] at k
    refine ⟨k.1, k.2.1, fun hn μ H locs cells slots A hR hL hw hS hm hc hs => ?_⟩
    obtain ⟨⟨h0, h1'⟩, he⟩ := sm_wl_arr (dA := dA) (μ := μ) hR.2.2.2 hk.1 (by omega) (by omega)
    refine va_iast hx hb hK hR.1 hR.2.1 hS (a - 1) 0 he rfl hk.2 hd (fun H1 locs1 hP1 hD1 hS1 => ?_)
    have e3 := sm_wl_arrset (dA := dA) (μ := μ) (h' := am_sI h a x.toNatClampNeg v) hR.2.2.2 hk.1 (by omega) (by omega) rfl sm_sI_other
    rw [show am_I (am_sI h a x.toNatClampNeg v) a = upd (am_I h a) x.toNatClampNeg v from am_ud_eq] at e3
    have hP1 : va_P D vwCl ((sm_wl dA μ h).set (a - 1) (μ a, .inl (dA 5, am_ln h a, .inl (upd (am_I h a) x.toNatClampNeg v)))) H1 := hP1
    have hD1 : va_D (fun q => base ≤ q) ((sm_wl dA μ h).set (a - 1) (μ a, .inl (dA 5, am_ln h a, .inl (upd (am_I h a) x.toNatClampNeg v)))) := hD1
    rw [show (sm_wl dA μ h).set (a - 1) (μ a, .inl (dA 5, am_ln h a, .inl (upd (am_I h a) x.toNatClampNeg v))) = sm_wl dA μ (am_sI h a x.toNatClampNeg v) from e3] at hP1 hD1
    exact k.2.2 hn μ H1 locs1 cells slots A ⟨hP1, hD1, hR.2.2.1, hR.2.2.2.rI h0⟩ hL (sm_wt (sm_wt (sm_wt hw))) hS1 hm hc hs
  · rw [if_neg hk] at k
    exact k.elim
theorem sm_x_castore (C : sm_cx p R s m args meth c P Ts D dA base b L xs cE sE) (hd : decode P.2.1 pc = .ok (.castore, 1)) (h1 : am_x_castore (sm_nx p l e R s m args below meth c Q P D dA base b L xs μ0 n0 cE sE F) CL RT False rk (pc + 1) ts cv cj ls st h) : sm_nx p l e R s m args below meth c Q P D dA base b L xs μ0 n0 cE sE F pc ls st h := by
  obtain ⟨hx, hb, hml, hown, hts, hG, hNT, hAO, hK, hX, hbb, hbs, hin, hfr, hlo, hcE, hsE⟩ := C
  unfold am_x_castore at h1
  obtain ⟨a, x, v, r2, e, k⟩ := am_aii_ex h1
  subst e
  by_cases hk : am_kd h a = 7 ∧ ¬ (x < 0 ∨ am_ln h a ≤ x.toNatClampNeg)
  · rw [if_pos hk] at k
    refine ⟨k.1, k.2.1, fun hn μ H locs cells slots A hR hL hw hS hm hc hs => ?_⟩
    obtain ⟨⟨h0, h1'⟩, he⟩ := sm_wl_arr (dA := dA) (μ := μ) hR.2.2.2 hk.1 (by omega) (by omega)
    refine va_cast hx hb hK hR.1 hR.2.1 hS (a - 1) 2 he rfl hk.2 hd (fun H1 locs1 hP1 hD1 hS1 => ?_)
    have e3 := sm_wl_arrset (dA := dA) (μ := μ) (h' := am_sI h a x.toNatClampNeg v.toUInt32.toUInt16.toUInt32.toInt32) hR.2.2.2 hk.1 (by omega) (by omega) rfl sm_sI_other
    rw [show am_I (am_sI h a x.toNatClampNeg v.toUInt32.toUInt16.toUInt32.toInt32) a = upd (am_I h a) x.toNatClampNeg (vp_nar .char v) from am_ud_eq] at e3
    have hP1 : va_P D vwCl ((sm_wl dA μ h).set (a - 1) (μ a, .inl (dA 7, am_ln h a, .inl (upd (am_I h a) x.toNatClampNeg (vp_nar .char v))))) H1 := hP1
    have hD1 : va_D (fun q => base ≤ q) ((sm_wl dA μ h).set (a - 1) (μ a, .inl (dA 7, am_ln h a, .inl (upd (am_I h a) x.toNatClampNeg (vp_nar .char v))))) := hD1
    rw [show (sm_wl dA μ h).set (a - 1) (μ a, .inl (dA 7, am_ln h a, .inl (upd (am_I h a) x.toNatClampNeg (vp_nar .char v)))) = sm_wl dA μ (am_sI h a x.toNatClampNeg v.toUInt32.toUInt16.toUInt32.toInt32) from e3] at hP1 hD1
    exact k.2.2 hn μ H1 locs1 cells slots A ⟨hP1, hD1, hR.2.2.1, hR.2.2.2.rI h0⟩ hL (sm_wt (sm_wt (sm_wt hw))) hS1 hm hc hs
  · rw [if_neg hk] at k
    exact k.elim
theorem sm_x_lastore (C : sm_cx p R s m args meth c P Ts D dA base b L xs cE sE) (hd : decode P.2.1 pc = .ok (.lastore, 1)) (h1 : am_x_lastore (sm_nx p l e R s m args below meth c Q P D dA base b L xs μ0 n0 cE sE F) CL RT False rk (pc + 1) ts cv cj ls st h) : sm_nx p l e R s m args below meth c Q P D dA base b L xs μ0 n0 cE sE F pc ls st h := by
  obtain ⟨hx, hb, hml, hown, hts, hG, hNT, hAO, hK, hX, hbb, hbs, hin, hfr, hlo, hcE, hsE⟩ := C
  unfold am_x_lastore at h1
  obtain ⟨a, x, v, r2, e, k⟩ := am_ail_ex h1
  subst e
  by_cases hk : am_kd h a = 6 ∧ ¬ (x < 0 ∨ am_ln h a ≤ x.toNatClampNeg)
  · rw [if_pos hk] at k
    refine ⟨k.1, k.2.1, fun hn μ H locs cells slots A hR hL hw hS hm hc hs => ?_⟩
    obtain ⟨⟨h0, h1'⟩, he⟩ := sm_wl_arr (dA := dA) (μ := μ) hR.2.2.2 hk.1 (by omega) (by omega)
    refine va_last hx hb hK hR.1 hR.2.1 hS (a - 1) 1 he rfl hk.2 hd (fun H1 locs1 hP1 hD1 hS1 => ?_)
    have e3 := sm_wl_arrset (dA := dA) (μ := μ) (h' := am_sJ h a x.toNatClampNeg v) hR.2.2.2 hk.1 (by omega) (by omega) rfl sm_sJ_other
    rw [show am_J (am_sJ h a x.toNatClampNeg v) a = vp_updL (am_J h a) x.toNatClampNeg v from am_ud_eq] at e3
    have hP1 : va_P D vwCl ((sm_wl dA μ h).set (a - 1) (μ a, .inl (dA 6, am_ln h a, .inr (.inl (vp_updL (am_J h a) x.toNatClampNeg v))))) H1 := hP1
    have hD1 : va_D (fun q => base ≤ q) ((sm_wl dA μ h).set (a - 1) (μ a, .inl (dA 6, am_ln h a, .inr (.inl (vp_updL (am_J h a) x.toNatClampNeg v))))) := hD1
    rw [show (sm_wl dA μ h).set (a - 1) (μ a, .inl (dA 6, am_ln h a, .inr (.inl (vp_updL (am_J h a) x.toNatClampNeg v)))) = sm_wl dA μ (am_sJ h a x.toNatClampNeg v) from e3] at hP1 hD1
    exact k.2.2 hn μ H1 locs1 cells slots A ⟨hP1, hD1, hR.2.2.1, hR.2.2.2.rJ⟩ hL (sm_wt (sm_wt (sm_wt hw))) hS1 hm hc hs
  · rw [if_neg hk] at k
    exact k.elim
theorem sm_x_aastore (C : sm_cx p R s m args meth c P Ts D dA base b L xs cE sE) (hd : decode P.2.1 pc = .ok (.aastore, 1)) (h1 : am_x_aastore (sm_nx p l e R s m args below meth c Q P D dA base b L xs μ0 n0 cE sE F) CL RT False rk (pc + 1) ts cv cj ls st h) : sm_nx p l e R s m args below meth c Q P D dA base b L xs μ0 n0 cE sE F pc ls st h := by
  obtain ⟨hx, hb, hml, hown, hts, hG, hNT, hAO, hK, hX, hbb, hbs, hin, hfr, hlo, hcE, hsE⟩ := C
  unfold am_x_aastore at h1
  obtain ⟨a, x, v, r2, e, k⟩ := am_air_ex h1
  subst e
  by_cases hk : am_kd h a = 8 ∧ ¬ (x < 0 ∨ am_ln h a ≤ x.toNatClampNeg)
  · rw [if_pos hk] at k
    have fin : ∀ (μ : Nat → Nat) (o : Option Nat), sm_WF L xs h → (sm_wl dA μ h).set (a - 1) (μ a, .inl (dA 8, am_ln h a, .inr (.inr (.inr (.inr (va_up (fun j => (am_R h a j).map μ) x.toNatClampNeg (o.map μ))))))) = sm_wl dA μ (am_sR h a x.toNatClampNeg o) := by
      intro μ o w
      have e3 := sm_wl_arrset (dA := dA) (μ := μ) (h' := am_sR h a x.toNatClampNeg o) w hk.1 (by omega) (by omega) rfl sm_sR_other
      rw [show am_R (am_sR h a x.toNatClampNeg o) a = am_ud (am_R h a) x.toNatClampNeg o from am_ud_eq] at e3
      have ef : va_up (fun j => (am_R h a j).map μ) x.toNatClampNeg (o.map μ) = fun j => (am_ud (am_R h a) x.toNatClampNeg o j).map μ := by
        funext j
        unfold va_up am_ud
        split <;> rfl
      rw [ef]
      exact e3
    cases v with
    | none =>
      have k : sm_nx p l e R s m args below meth c Q P D dA base b L xs μ0 n0 cE sE F (pc + 1) ls r2 (am_sR h a x.toNatClampNeg none) := k
      refine ⟨k.1, k.2.1, fun hn μ H locs cells slots A hR hL hw hS hm hc hs => ?_⟩
      obtain ⟨⟨h0, h1'⟩, he⟩ := sm_wl_arr (dA := dA) (μ := μ) hR.2.2.2 hk.1 (by omega) (by omega)
      refine va_astqN (C := RX2) hx hb hK hR.1 hR.2.1 hS (a - 1) 3 he rfl hk.2 hd (fun H1 locs1 hP1 hD1 hS1 => ?_)
      have e3 := fin μ none hR.2.2.2
      exact k.2.2 hn μ H1 locs1 cells slots A ⟨e3 ▸ hP1, e3 ▸ hD1, hR.2.2.1, hR.2.2.2.sR (fun _ z => by cases z)⟩ hL (sm_wt (sm_wt (sm_wt hw))) hS1 hm hc hs
    | some d =>
      have k : if am_kd h d = 2 then sm_nx p l e R s m args below meth c Q P D dA base b L xs μ0 n0 cE sE F (pc + 1) ls r2 (am_sR h a x.toNatClampNeg (some d)) else False := k
      by_cases h2 : am_kd h d = 2
      · rw [if_pos h2] at k
        refine ⟨k.1, k.2.1, fun hn μ H locs cells slots A hR hL hw hS hm hc hs => ?_⟩
        obtain ⟨⟨h0, h1'⟩, he⟩ := sm_wl_arr (dA := dA) (μ := μ) hR.2.2.2 hk.1 (by omega) (by omega)
        obtain ⟨⟨d0, d1⟩, hed⟩ := sm_wl_obj (dA := dA) (μ := μ) hR.2.2.2 h2 (by omega)
        refine va_astq (r := (RX2, TX2, 5)) hx hb hK hR.1 hR.2.1 hS (a - 1) 3 (d - 1) 2 he rfl hed rfl hk.2 hd (fun H1 locs1 hP1 hD1 hS1 => ?_)
        have e3 := fin μ (some d) hR.2.2.2
        exact k.2.2 hn μ H1 locs1 cells slots A ⟨e3 ▸ hP1, e3 ▸ hD1, hR.2.2.1, hR.2.2.2.sR (fun _ z => by cases z; exact d1)⟩ hL (sm_wt (sm_wt (sm_wt hw))) hS1 hm hc hs
      · rw [if_neg h2] at k
        exact k.elim
  · rw [if_neg hk] at k
    exact k.elim
end arrays
