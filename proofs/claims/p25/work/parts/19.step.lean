/-! ===== the rest of the rows, and one step of all ===== -/
theorem sm_oiC : Cond.code objectInit ⟨#[0xb1]⟩ 1 none ∈ sm_GT := List.mem_filter.mpr ⟨List.mem_of_getElem? (i := 37) rfl, rfl⟩
theorem sm_oiI : Cond.instanceMethod objectInit ∈ sm_GT := List.mem_filter.mpr ⟨List.mem_of_getElem? (i := 36) (by decide +kernel), rfl⟩
theorem sm_acN : Cond.native arraycopyName ∈ sm_GT := List.mem_filter.mpr ⟨List.mem_of_getElem? (i := 194) (by decide +kernel), rfl⟩
theorem sm_acS : Cond.static arraycopyName ∈ sm_GT := List.mem_filter.mpr ⟨List.mem_of_getElem? (i := 193) (by decide +kernel), rfl⟩
theorem sm_acI : Cond.initialized "java/lang/System" ∈ sm_GT := List.mem_filter.mpr ⟨List.mem_of_getElem? (i := 28) (by decide +kernel), rfl⟩
def sm_ri (rk : Nat) (i : Instr) (v : Option Value) : Prop := (v = none ∧ i = .return_ ∧ rk = 0) ∨ (∃ x, v = some (.int x) ∧ i = .ireturn ∧ (rk = 1 ∨ rk = 2 ∧ (x = 0 ∨ x = 1))) ∨ (∃ x, v = some (.long x) ∧ i = .lreturn ∧ rk = 3) ∨ ∃ a, v = some (.ref a) ∧ i = .areturn ∧ rk = 4
def sm_rt (p : Program) (l : Launch) (e : Env) (R : Room) (s : State) (m : MethodId) (args : Array Value) (below : List Frame) (meth : Method) (c : Code) (Q : State → Prop) (P : SP) (D : va_G) (dA : Nat → ClassId) (base b L : Nat) (xs : Nat → Int32) (μ0 : Nat → Nat) (n0 cE sE : Nat) (F : AH) (rk : Nat) (v : Option Value) : Prop :=
  ∀ (i : Instr) (pc : Nat) (μ : Nat → Nat) (H : Heap) (locs : List Loc) (A : Array Slot), decode P.2.1 pc = .ok (i, 1) → sm_ri rk i v → n0 ≤ F.1.length → sm_R D dA base b L xs μ F H → va_S (fun q => base ≤ q) s.heap H locs → (∀ a, a < n0 → μ a = μ0 a) → (∀ w, v = some w → sm_wv F.1.length w) → W p l e R s m args below meth c H locs cE sE Q (F0 m pc A (v.toList.map (sm_v μ)))
section rest
variable {p : Program} {l : Launch} {e : Env} {R : Room} {s : State} {m : MethodId} {args : Array Value} {below : List Frame} {meth : Method} {c : Code} {Q : State → Prop}
variable {P : SP} {Ts : List Cond} {D : va_G} {dA : Nat → ClassId} {base b L : Nat} {xs : Nat → Int32} {μ0 : Nat → Nat} {n0 cE sE : Nat} {F : AH}
variable {CL : Nat → Nat → Nat → List Value → Nat → List Value → List Value → AH → Prop} {RT : Option Value → AH → Prop} {rk : Nat} {ts : List Nat} {cv : Int32} {cj : Int64} {ls st : List Value} {h : AH} {pc : Nat}
theorem sm_x_objinit (C : sm_cx p R s m args meth c P Ts D dA base b L xs cE sE) {idx q : Nat} (hlk : lw_tbl[q]? = some (Cond.methodLink P.1.cls idx objectInit)) (hfr1 : 1 ≤ P.2.2.2.2.1) (hlo1 : 20 ≤ P.2.2.2.2.2.1) (hd : decode P.2.1 pc = .ok (.invokespecial idx, 3)) (h1 : am_inv (sm_nx p l e R s m args below meth c Q P D dA base b L xs μ0 n0 cE sE F) CL False (pc + 3) [2] ls st h) : sm_nx p l e R s m args below meth c Q P D dA base b L xs μ0 n0 cE sE F pc ls st h := by
  obtain ⟨hx, hb, hml, hown, hts, hG, hNT, hAO, hK, hX, hbb, hbs, hin, hfr, hlo, hcE, hsE⟩ := C
  replace h1 : match (generalizing := false) st with
    | .ref _ :: r => if am_w8 r ≤ 8 then sm_nx p l e R s m args below meth c Q P D dA base b L xs μ0 n0 cE sE F (pc + 3) ls r h else False
    | _ => False := h1
  split at h1
  · rename_i d r
    by_cases h8 : am_w8 r ≤ 8
    · rw [if_pos h8] at h1
      refine ⟨h1.1, h1.2.1, fun hn μ H locs cells slots A hR hL hw hS hm hc hs => ?_⟩
      have hg : Cond.methodLink P.1.cls idx objectInit ∈ sm_GT := List.mem_filter.mpr ⟨List.mem_of_getElem? hlk, rfl⟩
      refine W.objInit hx hb hown (hts _ (hG _ hg)) (hts _ (hG _ sm_oiI)) (hts _ (hG _ sm_oiC)) rfl (by rw [hml]; exact hL.1) rfl hd (by omega) ?_ ?_
      · show 2 * 0 + ((r.map (sm_v μ)).map fun v => v.category).sum + 12 ≤ _
        rw [sm_w8]
        omega
      · exact W.eq (g2 := F0 m (pc + 3) A (r.map (sm_v μ))) rfl (h1.2.2 hn μ H locs cells slots A hR hL (sm_wt hw) hS hm hc hs)
    · rw [if_neg h8] at h1
      exact h1.elim
  · exact h1.elim
theorem sm_x_arraycopy (C : sm_cx p R s m args meth c P Ts D dA base b L xs cE sE) {idx q z : Nat} (hlk : lw_tbl[q]? = some (Cond.methodLink P.1.cls idx arraycopyName)) (hfr1 : 1 ≤ P.2.2.2.2.1) (hlo1 : 26 ≤ P.2.2.2.2.2.1) (hd : decode P.2.1 pc = .ok (.invokestatic idx, 3)) (h1 : am_inv (sm_nx p l e R s m args below meth c Q P D dA base b L xs μ0 n0 cE sE F) CL False (pc + 3) [3, z] ls st h) : sm_nx p l e R s m args below meth c Q P D dA base b L xs μ0 n0 cE sE F pc ls st h := by
  obtain ⟨hx, hb, hml, hown, hts, hG, hNT, hAO, hK, hX, hbb, hbs, hin, hfr, hlo, hcE, hsE⟩ := C
  replace h1 : match (generalizing := false) st with
    | .int cn :: .int dp :: .ref d :: .int sp :: .ref sa :: r => if am_kd h sa = 5 ∧ am_kd h d = 5 ∧ ¬ sp < 0 ∧ ¬ dp < 0 ∧ ¬ cn < 0 ∧ sp.toNatClampNeg + cn.toNatClampNeg ≤ am_ln h sa ∧ dp.toNatClampNeg + cn.toNatClampNeg ≤ am_ln h d ∧ am_w8 r ≤ 8 then sm_nx p l e R s m args below meth c Q P D dA base b L xs μ0 n0 cE sE F (pc + 3) ls r (am_rI h d (am_cpy (am_I h sa) (am_I h d) sp.toNatClampNeg dp.toNatClampNeg cn.toNatClampNeg)) else False
    | _ => False := h1
  split at h1
  · rename_i cn dp d sp a r
    by_cases hk : am_kd h a = 5 ∧ am_kd h d = 5 ∧ ¬ sp < 0 ∧ ¬ dp < 0 ∧ ¬ cn < 0 ∧ sp.toNatClampNeg + cn.toNatClampNeg ≤ am_ln h a ∧ dp.toNatClampNeg + cn.toNatClampNeg ≤ am_ln h d ∧ am_w8 r ≤ 8
    · rw [if_pos hk] at h1
      obtain ⟨k1, k2, k3, k4, k5, k6, k7, k8⟩ := hk
      refine ⟨h1.1, h1.2.1, fun hn μ H locs cells slots A hR hL hw hS hm hc hs => ?_⟩
      have hg : Cond.methodLink P.1.cls idx arraycopyName ∈ sm_GT := List.mem_filter.mpr ⟨List.mem_of_getElem? hlk, rfl⟩
      obtain ⟨⟨a0, a1⟩, hea⟩ := sm_wl_arr (dA := dA) (μ := μ) hR.2.2.2 k1 (by omega) (by omega)
      obtain ⟨⟨d0, d1⟩, hed⟩ := sm_wl_arr (dA := dA) (μ := μ) hR.2.2.2 k2 (by omega) (by omega)
      refine va_copyi hx hb (by rw [hml]; exact hL.1.symm) hown (hts _ (hG _ hg)) (hts _ (hG _ sm_acN)) (hts _ (hG _ sm_acS)) (hts _ (hG _ sm_acI)) hK hR.1 hR.2.1 hS (a - 1) (d - 1) 0 0 hea hed rfl rfl rfl k3 k4 k5 k6 k7 (fun _ _ => rfl) (by omega) ?_ hd (fun H1 locs1 hP1 hD1 hS1 => ?_)
      · rw [sm_w8]
        show _ + (7 + 11) ≤ _
        omega
      · have e3 := sm_wl_arrset (dA := dA) (μ := μ) (h' := am_rI h d (am_cpy (am_I h a) (am_I h d) sp.toNatClampNeg dp.toNatClampNeg cn.toNatClampNeg)) hR.2.2.2 k2 (by omega) (by omega) rfl sm_sI_other
        rw [show am_I (am_rI h d (am_cpy (am_I h a) (am_I h d) sp.toNatClampNeg dp.toNatClampNeg cn.toNatClampNeg)) d = va_cpy (am_I h a) (am_I h d) sp.toNatClampNeg dp.toNatClampNeg cn.toNatClampNeg from am_ud_eq] at e3
        have hP1 : va_P D vwCl ((sm_wl dA μ h).set (d - 1) (μ d, .inl (dA 5, am_ln h d, .inl (va_cpy (am_I h a) (am_I h d) sp.toNatClampNeg dp.toNatClampNeg cn.toNatClampNeg)))) H1 := hP1
        have hD1 : va_D (fun q => base ≤ q) ((sm_wl dA μ h).set (d - 1) (μ d, .inl (dA 5, am_ln h d, .inl (va_cpy (am_I h a) (am_I h d) sp.toNatClampNeg dp.toNatClampNeg cn.toNatClampNeg)))) := hD1
        rw [show (sm_wl dA μ h).set (d - 1) (μ d, .inl (dA 5, am_ln h d, .inl (va_cpy (am_I h a) (am_I h d) sp.toNatClampNeg dp.toNatClampNeg cn.toNatClampNeg))) = sm_wl dA μ (am_rI h d (am_cpy (am_I h a) (am_I h d) sp.toNatClampNeg dp.toNatClampNeg cn.toNatClampNeg)) from e3] at hP1 hD1
        exact h1.2.2 hn μ H1 locs1 cells slots A ⟨hP1, hD1, hR.2.2.1, hR.2.2.2.rI d0⟩ hL (sm_wt (sm_wt (sm_wt (sm_wt (sm_wt hw))))) hS1 hm hc hs
    · rw [if_neg hk] at h1
      exact h1.elim
  · exact h1.elim
theorem am_sw_ex {f : Nat → Prop} {x : Int32} {d : Nat} : ∀ (r : List Nat) (k : Nat), am_sw f x d k r → (∃ j t, r[j]? = some t ∧ x = nI (k + j) ∧ f t) ∨ ((∀ j, j < r.length → x ≠ nI (k + j)) ∧ f d)
  | [], k, h => Or.inr ⟨fun j hj => by simp at hj, h⟩
  | t :: r, k, h => by
    unfold am_sw at h
    by_cases hx : x = nI k
    · rw [if_pos hx] at h
      exact Or.inl ⟨0, t, rfl, hx, h⟩
    · rw [if_neg hx] at h
      rcases am_sw_ex r (k + 1) h with ⟨j, t2, e1, e2, e3⟩ | ⟨e1, e2⟩
      · exact Or.inl ⟨j + 1, t2, e1, by rw [e2]; congr 1; omega, e3⟩
      · refine Or.inr ⟨fun j hj => ?_, e2⟩
        cases j with
        | zero => exact hx
        | succ j =>
          have := e1 j (by simpa using hj)
          rw [show k + (j + 1) = k + 1 + j by omega]
          exact this
theorem sm_x_tableswitch (hx : p.tables.exec = Jvm.exec) (hb : c.code = P.2.1) {d lo hi : Int} {offs : Array Int} {len : Nat} {k df : Nat} {r0 : List Nat} {n : Nat} (h2 : lo = (k : Int)) (h3 : (pc : Int) + d = (df : Int)) (h4 : offs.toList.map (fun o => (pc : Int) + o) = r0.map (fun (t : Nat) => (t : Int))) (h5 : hi = (k : Int) + (r0.length : Int) - 1) (h6 : k + r0.length < 1000) (hd : decode P.2.1 pc = .ok (.tableswitch d lo hi offs, len)) (h1 : am_x_tableswitch (sm_nx p l e R s m args below meth c Q P D dA base b L xs μ0 n0 cE sE F) CL RT False rk n (k :: df :: r0) cv cj ls st h) : sm_nx p l e R s m args below meth c Q P D dA base b L xs μ0 n0 cE sE F pc ls st h := by
  unfold am_x_tableswitch at h1
  obtain ⟨x, r, rfl, kk⟩ := am_i1_ex h1
  rcases am_sw_ex r0 k kk with ⟨j, t, e1, e2, e3⟩ | ⟨e1, e3⟩
  · have hj : j < r0.length := (List.getElem?_eq_some_iff.mp e1).1
    have hx' : x.toInt = ((k + j : Nat) : Int) := by rw [e2]; exact nI_toInt (by omega)
    have ho : ∃ off, offs[(x.toInt - lo).toNat]? = some off ∧ (pc : Int) + off = (t : Int) := by
      have hz : (x.toInt - lo).toNat = j := by rw [hx', h2]; omega
      have h7 := congrArg (fun q : List Int => q[j]?) h4
      simp only [List.getElem?_map, e1] at h7
      rw [hz]
      cases ho : offs[j]? with
      | none =>
        rw [← Array.getElem?_toList] at ho
        rw [ho] at h7
        cases h7
      | some off =>
        refine ⟨off, rfl, ?_⟩
        rw [← Array.getElem?_toList] at ho
        rw [ho] at h7
        exact Option.some.inj h7
    obtain ⟨off, ho1, ho2⟩ := ho
    exact ⟨e3.1, e3.2.1, fun hn μ H locs cells slots A hR hL hw hS hm hc hs => lv_tableIn (tgt := t) hx hb hd (by rw [hx', h2]; omega) (by rw [hx', h5]; omega) ho1 ho2 (e3.2.2 hn μ H locs cells slots A hR hL (sm_wt hw) hS hm hc hs)⟩
  · refine ⟨e3.1, e3.2.1, fun hn μ H locs cells slots A hR hL hw hS hm hc hs => lv_tableOut (tgt := df) hx hb hd ?_ h3 (e3.2.2 hn μ H locs cells slots A hR hL (sm_wt hw) hS hm hc hs)⟩
    rcases Int.lt_or_le x.toInt lo with z | z
    · exact Or.inl z
    · refine Or.inr (Int.not_le.mp fun z2 => ?_)
      refine e1 (x.toInt - lo).toNat (by omega) ?_
      apply Int32.toInt_inj.mp
      rw [nI_toInt (by omega)]
      omega
theorem sm_ret {i : Instr} {v : Option Value} (hd : decode P.2.1 pc = .ok (i, 1)) (hi : sm_ri rk i v) (hst : st = v.toList) (hF : h = F) (hrt : sm_rt p l e R s m args below meth c Q P D dA base b L xs μ0 n0 cE sE F rk v) : sm_nx p l e R s m args below meth c Q P D dA base b L xs μ0 n0 cE sE F pc ls st h := by
  subst hst
  subst hF
  refine ⟨Nat.le_refl _, Nat.le_refl _, fun hn μ H locs cells slots A hR hL hw hS hm hc hs => ?_⟩
  have hcc : cells = cE := by omega
  have hss : slots = sE := by omega
  subst hcc
  subst hss
  exact hrt i pc μ H locs A hd hi hn hR hS hm (fun w hw2 => hw w (by rw [hw2]; exact List.mem_cons_self))
theorem sm_x_ireturn (hd : decode P.2.1 pc = .ok (.ireturn, 1)) {n : Nat} (h1 : am_x_ireturn (sm_nx p l e R s m args below meth c Q P D dA base b L xs μ0 n0 cE sE F) CL (fun v h' => h' = F ∧ sm_rt p l e R s m args below meth c Q P D dA base b L xs μ0 n0 cE sE F rk v) False rk n ts cv cj ls st h) : sm_nx p l e R s m args below meth c Q P D dA base b L xs μ0 n0 cE sE F pc ls st h := by
  unfold am_x_ireturn at h1
  split at h1
  · split at h1
    · exact sm_ret hd (Or.inr (Or.inl ⟨_, rfl, rfl, Or.inl rfl⟩)) rfl h1.1 h1.2
    · split at h1
      · rename_i hx
        exact sm_ret hd (Or.inr (Or.inl ⟨_, rfl, rfl, Or.inr ⟨rfl, hx⟩⟩)) rfl h1.1 h1.2
      · exact h1.elim
    · exact h1.elim
  · exact h1.elim
theorem sm_x_lreturn (hd : decode P.2.1 pc = .ok (.lreturn, 1)) {n : Nat} (h1 : am_x_lreturn (sm_nx p l e R s m args below meth c Q P D dA base b L xs μ0 n0 cE sE F) CL (fun v h' => h' = F ∧ sm_rt p l e R s m args below meth c Q P D dA base b L xs μ0 n0 cE sE F rk v) False rk n ts cv cj ls st h) : sm_nx p l e R s m args below meth c Q P D dA base b L xs μ0 n0 cE sE F pc ls st h := by
  unfold am_x_lreturn at h1
  split at h1
  · split at h1
    · exact sm_ret hd (Or.inr (Or.inr (Or.inl ⟨_, rfl, rfl, rfl⟩))) rfl h1.1 h1.2
    · exact h1.elim
  · exact h1.elim
theorem sm_x_areturn (hd : decode P.2.1 pc = .ok (.areturn, 1)) {n : Nat} (h1 : am_x_areturn (sm_nx p l e R s m args below meth c Q P D dA base b L xs μ0 n0 cE sE F) CL (fun v h' => h' = F ∧ sm_rt p l e R s m args below meth c Q P D dA base b L xs μ0 n0 cE sE F rk v) False rk n ts cv cj ls st h) : sm_nx p l e R s m args below meth c Q P D dA base b L xs μ0 n0 cE sE F pc ls st h := by
  unfold am_x_areturn at h1
  split at h1
  · split at h1
    · exact sm_ret hd (Or.inr (Or.inr (Or.inr ⟨_, rfl, rfl, rfl⟩))) rfl h1.1 h1.2
    · exact h1.elim
  · exact h1.elim
theorem sm_x_return (hd : decode P.2.1 pc = .ok (.return_, 1)) {n : Nat} (h1 : am_x_return_ (sm_nx p l e R s m args below meth c Q P D dA base b L xs μ0 n0 cE sE F) CL (fun v h' => h' = F ∧ sm_rt p l e R s m args below meth c Q P D dA base b L xs μ0 n0 cE sE F rk v) False rk n ts cv cj ls st h) : sm_nx p l e R s m args below meth c Q P D dA base b L xs μ0 n0 cE sE F pc ls st h := by
  unfold am_x_return_ at h1
  split at h1
  · split at h1
    · exact sm_ret hd (Or.inl ⟨rfl, rfl, rfl⟩) rfl h1.1 h1.2
    · exact h1.elim
  · exact h1.elim
theorem sm_x_null (hx : p.tables.exec = Jvm.exec) (hb : c.code = P.2.1) (hd : decode P.2.1 pc = .ok (.aconst_null, 1)) (h1 : am_x_aconst_null (sm_nx p l e R s m args below meth c Q P D dA base b L xs μ0 n0 cE sE F) CL RT False rk (pc + 1) ts cv cj ls st h) : sm_nx p l e R s m args below meth c Q P D dA base b L xs μ0 n0 cE sE F pc ls st h := by
  unfold am_x_aconst_null at h1
  exact ⟨h1.1, h1.2.1, fun hn μ H locs cells slots A hR hL hw hS hm hc hs => lv_null hx hb hd (h1.2.2 hn μ H locs cells slots A hR hL (sm_wc sm_wv_n hw) hS hm hc hs)⟩
theorem sm_len_of {i : Instr} {l0 k : Nat} (hk : sm_len i = k) (k0 : k ≠ 0) (h : sm_len i = 0 ∨ sm_len i = l0) : l0 = k := by omega
set_option maxHeartbeats 4000000 in
theorem sm_step (C : sm_cx p R s m args meth c P Ts D dA base b L xs cE sE) {i : Instr} {n q : Nat} {l0 : Nat} (hd : decode P.2.1 pc = .ok (i, l0)) (hnl : n = pc + l0) (hlen : sm_len i = 0 ∨ sm_len i = l0) (hop : sm_opB P.1.cls (decide (P.1.name = "<init>")) P.2.2.2.2.1 P.2.2.2.2.2.1 pc i ts cv cj q = true) (h1 : am_exe (sm_nx p l e R s m args below meth c Q P D dA base b L xs μ0 n0 cE sE F) (fun mi rk' nL as pc ls st h => ∃ v h1, (mi < 165 → (sm_P mi).2.2.1 = nL → sm_call l D dA base b L xs mi as h v h1) ∧ sm_nx p l e R s m args below meth c Q P D dA base b L xs μ0 n0 cE sE F pc ls (v.toList ++ st) h1) (fun v h' => h' = F ∧ sm_rt p l e R s m args below meth c Q P D dA base b L xs μ0 n0 cE sE F rk v) False rk i n ts cv cj ls st h) : sm_nx p l e R s m args below meth c Q P D dA base b L xs μ0 n0 cE sE F pc ls st h := by
  subst hnl
  obtain ⟨hx, hb, hml, hown, hts, hG, hNT, hAO, hK, hX, hbb, hbs, hin, hfr, hlo, hcE, hsE⟩ := id C
  unfold am_exe at h1
  cases i with
  | iadd =>
    obtain rfl : l0 = 1 := sm_len_of rfl (by decide) hlen
    dsimp only [am_sel] at h1
    exact sm_x_iadd hx hb hd h1
  | isub =>
    obtain rfl : l0 = 1 := sm_len_of rfl (by decide) hlen
    dsimp only [am_sel] at h1
    exact sm_x_isub hx hb hd h1
  | imul =>
    obtain rfl : l0 = 1 := sm_len_of rfl (by decide) hlen
    dsimp only [am_sel] at h1
    exact sm_x_imul hx hb hd h1
  | iand =>
    obtain rfl : l0 = 1 := sm_len_of rfl (by decide) hlen
    dsimp only [am_sel] at h1
    exact sm_x_iand hx hb hd h1
  | ior =>
    obtain rfl : l0 = 1 := sm_len_of rfl (by decide) hlen
    dsimp only [am_sel] at h1
    exact sm_x_ior hx hb hd h1
  | ixor =>
    obtain rfl : l0 = 1 := sm_len_of rfl (by decide) hlen
    dsimp only [am_sel] at h1
    exact sm_x_ixor hx hb hd h1
  | ishl =>
    obtain rfl : l0 = 1 := sm_len_of rfl (by decide) hlen
    dsimp only [am_sel] at h1
    exact sm_x_ishl hx hb hd h1
  | ishr =>
    obtain rfl : l0 = 1 := sm_len_of rfl (by decide) hlen
    dsimp only [am_sel] at h1
    exact sm_x_ishr hx hb hd h1
  | idiv =>
    obtain rfl : l0 = 1 := sm_len_of rfl (by decide) hlen
    dsimp only [am_sel] at h1
    exact sm_x_idiv hx hb hd h1
  | irem =>
    obtain rfl : l0 = 1 := sm_len_of rfl (by decide) hlen
    dsimp only [am_sel] at h1
    exact sm_x_irem hx hb hd h1
  | ladd =>
    obtain rfl : l0 = 1 := sm_len_of rfl (by decide) hlen
    dsimp only [am_sel] at h1
    exact sm_x_ladd hx hb hd h1
  | lsub =>
    obtain rfl : l0 = 1 := sm_len_of rfl (by decide) hlen
    dsimp only [am_sel] at h1
    exact sm_x_lsub hx hb hd h1
  | lmul =>
    obtain rfl : l0 = 1 := sm_len_of rfl (by decide) hlen
    dsimp only [am_sel] at h1
    exact sm_x_lmul hx hb hd h1
  | land =>
    obtain rfl : l0 = 1 := sm_len_of rfl (by decide) hlen
    dsimp only [am_sel] at h1
    exact sm_x_land hx hb hd h1
  | lor =>
    obtain rfl : l0 = 1 := sm_len_of rfl (by decide) hlen
    dsimp only [am_sel] at h1
    exact sm_x_lor hx hb hd h1
  | lxor =>
    obtain rfl : l0 = 1 := sm_len_of rfl (by decide) hlen
    dsimp only [am_sel] at h1
    exact sm_x_lxor hx hb hd h1
  | ldiv =>
    obtain rfl : l0 = 1 := sm_len_of rfl (by decide) hlen
    dsimp only [am_sel] at h1
    exact sm_x_ldiv hx hb hd h1
  | lrem =>
    obtain rfl : l0 = 1 := sm_len_of rfl (by decide) hlen
    dsimp only [am_sel] at h1
    exact sm_x_lrem hx hb hd h1
  | lneg =>
    obtain rfl : l0 = 1 := sm_len_of rfl (by decide) hlen
    dsimp only [am_sel] at h1
    exact sm_x_lneg hx hb hd h1
  | lshl =>
    obtain rfl : l0 = 1 := sm_len_of rfl (by decide) hlen
    dsimp only [am_sel] at h1
    exact sm_x_lshl hx hb hd h1
  | lushr =>
    obtain rfl : l0 = 1 := sm_len_of rfl (by decide) hlen
    dsimp only [am_sel] at h1
    exact sm_x_lushr hx hb hd h1
  | lcmp =>
    obtain rfl : l0 = 1 := sm_len_of rfl (by decide) hlen
    dsimp only [am_sel] at h1
    exact sm_x_lcmp hx hb hd h1
  | i2l =>
    obtain rfl : l0 = 1 := sm_len_of rfl (by decide) hlen
    dsimp only [am_sel] at h1
    exact sm_x_i2l hx hb hd h1
  | l2i =>
    obtain rfl : l0 = 1 := sm_len_of rfl (by decide) hlen
    dsimp only [am_sel] at h1
    exact sm_x_l2i hx hb hd h1
  | i2c =>
    obtain rfl : l0 = 1 := sm_len_of rfl (by decide) hlen
    dsimp only [am_sel] at h1
    exact sm_x_i2c hx hb hd h1
  | dup =>
    obtain rfl : l0 = 1 := sm_len_of rfl (by decide) hlen
    dsimp only [am_sel] at h1
    exact sm_x_dup hx hb hd h1
  | dup2 =>
    obtain rfl : l0 = 1 := sm_len_of rfl (by decide) hlen
    dsimp only [am_sel] at h1
    exact sm_x_dup2 hx hb hd h1
  | iload k =>
    obtain rfl : l0 = 2 := sm_len_of rfl (by decide) hlen
    dsimp only [am_sel] at h1
    exact sm_x_iload hx hb hd h1
  | iload_n k =>
    obtain rfl : l0 = 1 := sm_len_of rfl (by decide) hlen
    dsimp only [am_sel] at h1
    exact sm_x_iload_n hx hb hd h1
  | lload k =>
    obtain rfl : l0 = 2 := sm_len_of rfl (by decide) hlen
    dsimp only [am_sel] at h1
    exact sm_x_lload hx hb hd h1
  | lload_n k =>
    obtain rfl : l0 = 1 := sm_len_of rfl (by decide) hlen
    dsimp only [am_sel] at h1
    exact sm_x_lload_n hx hb hd h1
  | aload k =>
    obtain rfl : l0 = 2 := sm_len_of rfl (by decide) hlen
    dsimp only [am_sel] at h1
    exact sm_x_aload hx hb hd h1
  | aload_n k =>
    obtain rfl : l0 = 1 := sm_len_of rfl (by decide) hlen
    dsimp only [am_sel] at h1
    exact sm_x_aload_n hx hb hd h1
  | istore k =>
    obtain rfl : l0 = 2 := sm_len_of rfl (by decide) hlen
    dsimp only [am_sel] at h1
    exact sm_x_istore hx hb hd h1
  | istore_n k =>
    obtain rfl : l0 = 1 := sm_len_of rfl (by decide) hlen
    dsimp only [am_sel] at h1
    exact sm_x_istore_n hx hb hd h1
  | lstore k =>
    obtain rfl : l0 = 2 := sm_len_of rfl (by decide) hlen
    dsimp only [am_sel] at h1
    exact sm_x_lstore hx hb hd h1
  | lstore_n k =>
    obtain rfl : l0 = 1 := sm_len_of rfl (by decide) hlen
    dsimp only [am_sel] at h1
    exact sm_x_lstore_n hx hb hd h1
  | astore k =>
    obtain rfl : l0 = 2 := sm_len_of rfl (by decide) hlen
    dsimp only [am_sel] at h1
    exact sm_x_astore hx hb hd h1
  | astore_n k =>
    obtain rfl : l0 = 1 := sm_len_of rfl (by decide) hlen
    dsimp only [am_sel] at h1
    exact sm_x_astore_n hx hb hd h1
  | iconst k =>
    obtain rfl : l0 = 1 := sm_len_of rfl (by decide) hlen
    dsimp only [am_sel] at h1
    exact sm_x_iconst hx hb (of_decide_eq_true hop) hd h1
  | bipush k =>
    obtain rfl : l0 = 2 := sm_len_of rfl (by decide) hlen
    dsimp only [am_sel] at h1
    exact sm_x_bipush hx hb (of_decide_eq_true hop) hd h1
  | sipush k =>
    obtain rfl : l0 = 3 := sm_len_of rfl (by decide) hlen
    dsimp only [am_sel] at h1
    exact sm_x_sipush hx hb (of_decide_eq_true hop) hd h1
  | lconst k =>
    obtain rfl : l0 = 1 := sm_len_of rfl (by decide) hlen
    dsimp only [am_sel] at h1
    exact sm_x_lconst hx hb (of_decide_eq_true hop) hd h1
  | ldc k =>
    obtain rfl : l0 = 2 := sm_len_of rfl (by decide) hlen
    dsimp only [am_sel] at h1
    exact sm_x_ldc hx hb hown (hts _ (hG _ (List.mem_filter.mpr ⟨List.mem_of_getElem? (of_decide_eq_true hop), rfl⟩))) hd h1
  | ldc2_w k =>
    obtain rfl : l0 = 3 := sm_len_of rfl (by decide) hlen
    dsimp only [am_sel] at h1
    exact sm_x_ldc2 hx hb hown (hts _ (hG _ (List.mem_filter.mpr ⟨List.mem_of_getElem? (of_decide_eq_true hop), rfl⟩))) hd h1
  | iinc k z =>
    obtain rfl : l0 = 3 := sm_len_of rfl (by decide) hlen
    dsimp only [am_sel] at h1
    exact sm_x_iinc hx hb (of_decide_eq_true hop) hd h1
  | goto off =>
    obtain rfl : l0 = 3 := sm_len_of rfl (by decide) hlen
    dsimp only [am_sel] at h1
    have hj : sm_jB pc off ts = true := hop
    clear hop
    unfold sm_jB at hj
    split at hj
    rotate_left
    · cases hj
    have hj2 := of_decide_eq_true hj
    exact sm_x_goto hx hb hj2 hd h1
  | ifnonnull off =>
    obtain rfl : l0 = 3 := sm_len_of rfl (by decide) hlen
    dsimp only [am_sel] at h1
    have hj : sm_jB pc off ts = true := hop
    clear hop
    unfold sm_jB at hj
    split at hj
    rotate_left
    · cases hj
    have hj2 := of_decide_eq_true hj
    exact sm_x_ifnonnull hx hb hj2 hd h1
  | ifCond cc off =>
    obtain rfl : l0 = 3 := sm_len_of rfl (by decide) hlen
    have hj : sm_jB pc off ts = true := hop
    clear hop
    unfold sm_jB at hj
    split at hj
    rotate_left
    · cases hj
    have hj2 := of_decide_eq_true hj
    cases cc <;> dsimp only [am_sel] at h1
    · exact sm_x_ifCond_eq hx hb hj2 hd h1
    · exact sm_x_ifCond_ne hx hb hj2 hd h1
    · exact sm_x_ifCond_lt hx hb hj2 hd h1
    · exact sm_x_ifCond_ge hx hb hj2 hd h1
    · exact sm_x_ifCond_gt hx hb hj2 hd h1
    · exact sm_x_ifCond_le hx hb hj2 hd h1
  | if_icmp cc off =>
    obtain rfl : l0 = 3 := sm_len_of rfl (by decide) hlen
    have hj : sm_jB pc off ts = true := hop
    clear hop
    unfold sm_jB at hj
    split at hj
    rotate_left
    · cases hj
    have hj2 := of_decide_eq_true hj
    cases cc <;> dsimp only [am_sel] at h1
    · exact sm_x_if_icmp_eq hx hb hj2 hd h1
    · exact sm_x_if_icmp_ne hx hb hj2 hd h1
    · exact sm_x_if_icmp_lt hx hb hj2 hd h1
    · exact sm_x_if_icmp_ge hx hb hj2 hd h1
    · exact sm_x_if_icmp_gt hx hb hj2 hd h1
    · exact sm_x_if_icmp_le hx hb hj2 hd h1
  | tableswitch d lo hi offs =>
    dsimp only [am_sel] at h1
    unfold sm_opB at hop
    dsimp only at hop
    split at hop
    · simp only [Bool.and_eq_true, decide_eq_true_eq] at hop
      exact sm_x_tableswitch hx hb hop.1 hop.2.1 hop.2.2.1 hop.2.2.2.1 hop.2.2.2.2 hd h1
    · cases hop
  | getfield idx =>
    obtain rfl : l0 = 3 := sm_len_of rfl (by decide) hlen
    dsimp only [am_sel] at h1
    unfold sm_opB at hop
    dsimp only at hop
    split at hop
    · exact sm_x_getfield C (sm_fB_P hop) hd h1
    · cases hop
  | putfield idx =>
    obtain rfl : l0 = 3 := sm_len_of rfl (by decide) hlen
    dsimp only [am_sel] at h1
    unfold sm_opB at hop
    dsimp only at hop
    split at hop
    · rw [Bool.and_eq_true] at hop
      exact sm_x_putfield C (sm_fB_P hop.1) (sm_wB_P hop.2) hd h1
    · cases hop
  | new idx =>
    obtain rfl : l0 = 3 := sm_len_of rfl (by decide) hlen
    dsimp only [am_sel] at h1
    unfold sm_opB at hop
    dsimp only at hop
    split at hop
    · split at hop
      · rename_i r hr
        simp only [Bool.and_eq_true, decide_eq_true_eq] at hop
        exact sm_x_new C hr hop.1 (List.mem_filter.mpr ⟨List.mem_of_getElem? hop.2, rfl⟩) hd h1
      · cases hop
    · cases hop
  | newarray t =>
    obtain rfl : l0 = 2 := sm_len_of rfl (by decide) hlen
    dsimp only [am_sel] at h1
    unfold sm_opB at hop
    dsimp only at hop
    split at hop
    · exact sm_x_newarrI C (of_decide_eq_true hop) hd h1
    · exact sm_x_newarrJ C (of_decide_eq_true hop) hd h1
    · exact sm_x_newarrC C (of_decide_eq_true hop) hd h1
    · cases hop
  | anewarray idx =>
    obtain rfl : l0 = 3 := sm_len_of rfl (by decide) hlen
    dsimp only [am_sel] at h1
    exact sm_x_anewarray C (List.mem_filter.mpr ⟨List.mem_of_getElem? (of_decide_eq_true hop), rfl⟩) hd h1
  | arraylength =>
    obtain rfl : l0 = 1 := sm_len_of rfl (by decide) hlen
    dsimp only [am_sel] at h1
    exact sm_x_arraylength C hd h1
  | iaload =>
    obtain rfl : l0 = 1 := sm_len_of rfl (by decide) hlen
    dsimp only [am_sel] at h1
    exact sm_x_iaload C hd h1
  | laload =>
    obtain rfl : l0 = 1 := sm_len_of rfl (by decide) hlen
    dsimp only [am_sel] at h1
    exact sm_x_laload C hd h1
  | caload =>
    obtain rfl : l0 = 1 := sm_len_of rfl (by decide) hlen
    dsimp only [am_sel] at h1
    exact sm_x_caload C hd h1
  | aaload =>
    obtain rfl : l0 = 1 := sm_len_of rfl (by decide) hlen
    dsimp only [am_sel] at h1
    exact sm_x_aaload C hd h1
  | iastore =>
    obtain rfl : l0 = 1 := sm_len_of rfl (by decide) hlen
    dsimp only [am_sel] at h1
    exact sm_x_iastore C hd h1
  | lastore =>
    obtain rfl : l0 = 1 := sm_len_of rfl (by decide) hlen
    dsimp only [am_sel] at h1
    exact sm_x_lastore C hd h1
  | castore =>
    obtain rfl : l0 = 1 := sm_len_of rfl (by decide) hlen
    dsimp only [am_sel] at h1
    exact sm_x_castore C hd h1
  | aastore =>
    obtain rfl : l0 = 1 := sm_len_of rfl (by decide) hlen
    dsimp only [am_sel] at h1
    exact sm_x_aastore C hd h1
  | ireturn =>
    obtain rfl : l0 = 1 := sm_len_of rfl (by decide) hlen
    dsimp only [am_sel] at h1
    exact sm_x_ireturn hd h1
  | lreturn =>
    obtain rfl : l0 = 1 := sm_len_of rfl (by decide) hlen
    dsimp only [am_sel] at h1
    exact sm_x_lreturn hd h1
  | areturn =>
    obtain rfl : l0 = 1 := sm_len_of rfl (by decide) hlen
    dsimp only [am_sel] at h1
    exact sm_x_areturn hd h1
  | return_ =>
    obtain rfl : l0 = 1 := sm_len_of rfl (by decide) hlen
    dsimp only [am_sel] at h1
    exact sm_x_return hd h1
  | invokevirtual idx =>
    obtain rfl : l0 = 3 := sm_len_of rfl (by decide) hlen
    dsimp only [am_sel] at h1
    unfold sm_opB at hop
    dsimp only at hop
    split at hop
    · simp only [Bool.and_eq_true, decide_eq_true_eq, Bool.not_eq_true'] at hop
      exact sm_x_virtual C hop.1 hop.2.1 hop.2.2.2 hop.2.2.1 hd h1
    · cases hop
  | invokespecial idx =>
    obtain rfl : l0 = 3 := sm_len_of rfl (by decide) hlen
    dsimp only [am_sel] at h1
    unfold sm_opB at hop
    dsimp only at hop
    split at hop
    · simp only [Bool.and_eq_true, decide_eq_true_eq, Bool.not_eq_true'] at hop
      exact sm_x_special C hop.1 hop.2.1 hop.2.2.2 hop.2.2.1 hd h1
    · simp only [Bool.and_eq_true, decide_eq_true_eq] at hop
      exact sm_x_objinit C hop.1 hop.2.1 hop.2.2 hd h1
    · cases hop
  | invokestatic idx =>
    obtain rfl : l0 = 3 := sm_len_of rfl (by decide) hlen
    dsimp only [am_sel] at h1
    unfold sm_opB at hop
    dsimp only at hop
    split at hop
    · rw [Bool.and_eq_true] at hop
      exact sm_x_static C hop.1 hop.2 hd h1
    · simp only [Bool.and_eq_true, decide_eq_true_eq] at hop
      exact sm_x_arraycopy C hop.1 hop.2.1 hop.2.2 hd h1
    · cases hop
  | aconst_null =>
    obtain rfl : l0 = 1 := sm_len_of rfl (by decide) hlen
    dsimp only [am_sel] at h1
    exact sm_x_null hx hb hd h1
  | _ => exact h1.elim
end rest
