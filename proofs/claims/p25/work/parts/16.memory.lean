/-! ===== the memory's rows ===== -/
theorem sm_L.mono {μ μ' : Nat → Nat} {n k nL : Nat} {ls : List Value} {A : Array Slot} (h : sm_L μ n nL ls A) (hk : n ≤ k) (hm : ∀ a, a < n → μ' a = μ a) : sm_L μ' k nL ls A := by
  refine ⟨h.1, h.2.1, h.2.2.1, fun i v hv hp => ?_, sm_wm hk h.2.2.2.2⟩
  have := h.2.2.2.1 i v hv hp
  have w := h.2.2.2.2 v (List.mem_of_getElem? hv)
  cases v <;> first | exact this | (simp only [sm_v] at this ⊢; rw [hm _ (w _ (Or.inl rfl))]; exact this)
theorem sm_map_ext {μ μ' : Nat → Nat} {n : Nat} {st : List Value} (hm : ∀ a, a < n → μ' a = μ a) (hw : ∀ v ∈ st, sm_wv n v) : st.map (sm_v μ') = st.map (sm_v μ) := by
  apply List.map_congr_left
  intro v hv
  have w := hw v hv
  cases v <;> first | rfl | (simp only [sm_v]; rw [hm _ (w _ (Or.inl rfl))])
theorem sm_wl_obj {dA : Nat → ClassId} {μ : Nat → Nat} {L : Nat} {xs : Nat → Int32} {h : AH} {a ci : Nat} (w : sm_WF L xs h) (hk : am_kd h a = ci) (hc : ci < 5) : (0 < a ∧ a < h.1.length) ∧ (sm_wl dA μ h)[a - 1]? = some (μ a, .inr (ci, (List.range (sm_nf ci)).map (sm_fv μ h ci a))) := by
  have h0 := w.pos hk (by omega)
  have h1 := sm_kd_lt hk (by omega)
  refine ⟨⟨h0, h1⟩, ?_⟩
  rw [sm_wl_get h0 h1]
  have hn := (w.2.2.1 a h0 h1).2 (by omega)
  unfold sm_E
  rw [hk] at hn ⊢
  rw [if_pos hc, hn]
theorem sm_wl_arr {dA : Nat → ClassId} {μ : Nat → Nat} {L : Nat} {xs : Nat → Int32} {h : AH} {a k : Nat} (w : sm_WF L xs h) (hk : am_kd h a = k) (hc : 5 ≤ k) (hc2 : k < 9) : (0 < a ∧ a < h.1.length) ∧ (sm_wl dA μ h)[a - 1]? = some (μ a, .inl (dA k, am_ln h a, if k = 6 then .inr (.inl (am_J h a)) else if k = 8 then .inr (.inr (.inr (.inr fun j => (am_R h a j).map μ))) else .inl (am_I h a))) := by
  have h0 := w.pos hk (by omega)
  have h1 := sm_kd_lt hk (by omega)
  refine ⟨⟨h0, h1⟩, ?_⟩
  rw [sm_wl_get h0 h1]
  unfold sm_E
  rw [hk, if_neg (show ¬ k < 5 by omega)]
theorem sm_wl_put {dA : Nat → ClassId} {μ : Nat → Nat} {L : Nat} {xs : Nat → Int32} {h h' : AH} {a ci k : Nat} {v : Value} (w : sm_WF L xs h) (hk : am_kd h a = ci) (hc : ci < 5) (ht : h'.1 = h.1) (hs : ∀ c, c ≠ a → am_I h' c = am_I h c ∧ am_J h' c = am_J h c ∧ am_R h' c = am_R h c) (hv : ∀ j, sm_fv μ h' ci a j = if j = k then v else sm_fv μ h ci a j) : (sm_wl dA μ h).set (a - 1) (μ a, .inr (ci, ((List.range (sm_nf ci)).map (sm_fv μ h ci a)).set k v)) = sm_wl dA μ h' := by
  obtain ⟨⟨h0, h1⟩, -⟩ := sm_wl_obj (dA := dA) (μ := μ) w hk hc
  have hn := (w.2.2.1 a h0 h1).2 (by omega)
  rw [sm_wl_set h0 h1 ht hs]
  congr 2
  have e1 : am_kd h' a = ci := by unfold am_kd at hk ⊢; rw [ht]; exact hk
  have e2 : am_ln h' a = sm_nf ci := by
    unfold am_ln at hn ⊢
    rw [ht, hn, hk]
  unfold sm_E
  rw [e1, if_pos hc, e2]
  congr 2
  apply List.ext_getElem?
  intro i
  rw [List.getElem?_set]
  by_cases hi : k = i
  · subst hi
    rw [if_pos rfl]
    by_cases hl : k < sm_nf ci
    · rw [if_pos (by simpa using hl), List.getElem?_map, List.getElem?_range hl]
      simp [hv]
    · rw [if_neg (by simpa using hl), List.getElem?_eq_none (by simpa using hl)]
  · rw [if_neg hi, List.getElem?_map, List.getElem?_map]
    by_cases hl : i < sm_nf ci
    · rw [List.getElem?_range hl]
      simp [hv, Ne.symm hi]
    · rw [List.getElem?_eq_none (by simpa using hl)]
      rfl
theorem sm_wl_arrset {dA : Nat → ClassId} {μ : Nat → Nat} {L : Nat} {xs : Nat → Int32} {h h' : AH} {a k : Nat} (w : sm_WF L xs h) (hk : am_kd h a = k) (hc : 5 ≤ k) (hc2 : k < 9) (ht : h'.1 = h.1) (hs : ∀ c, c ≠ a → am_I h' c = am_I h c ∧ am_J h' c = am_J h c ∧ am_R h' c = am_R h c) : (sm_wl dA μ h).set (a - 1) (μ a, .inl (dA k, am_ln h a, if k = 6 then .inr (.inl (am_J h' a)) else if k = 8 then .inr (.inr (.inr (.inr fun j => (am_R h' a j).map μ))) else .inl (am_I h' a))) = sm_wl dA μ h' := by
  have h0 := w.pos hk (by omega)
  have h1 := sm_kd_lt hk (by omega)
  rw [sm_wl_set h0 h1 ht hs]
  have e1 : am_kd h' a = k := by unfold am_kd at hk ⊢; rw [ht]; exact hk
  have e2 : am_ln h' a = am_ln h a := by unfold am_ln; rw [ht]
  unfold sm_E
  rw [e1, e2, if_neg (show ¬ k < 5 by omega)]
theorem sm_WF.rI {L : Nat} {xs : Nat → Int32} {h : AH} {a : Nat} {f : Nat → Int32} (w : sm_WF L xs h) (ha : 0 < a) : sm_WF L xs (am_rI h a f) := by
  refine ⟨w.1, fun j => ?_, w.2.2.1, w.2.2.2⟩
  show am_ud (am_I h) a f 0 j = xs j
  rw [am_ud_ne (by omega)]
  exact w.2.1 j
theorem sm_WF.rJ {L : Nat} {xs : Nat → Int32} {h : AH} {a : Nat} {f : Nat → Int64} (w : sm_WF L xs h) : sm_WF L xs (am_rJ h a f) := ⟨w.1, w.2.1, w.2.2.1, w.2.2.2⟩
theorem sm_WF.sR {L : Nat} {xs : Nat → Int32} {h : AH} {a k : Nat} {v : Option Nat} (w : sm_WF L xs h) (hv : ∀ c, v = some c → c < h.1.length) : sm_WF L xs (am_sR h a k v) := by
  refine ⟨w.1, w.2.1, w.2.2.1, fun c j q hq => ?_⟩
  have hq : am_ud (am_R h) a (am_ud (am_R h a) k v) c j = some q := hq
  by_cases hc : c = a
  · subst hc
    rw [am_ud_eq] at hq
    by_cases hj : j = k
    · subst hj
      rw [am_ud_eq] at hq
      exact hv q hq
    · rw [am_ud_ne hj] at hq
      exact w.2.2.2 _ _ _ hq
  · rw [am_ud_ne hc] at hq
    exact w.2.2.2 _ _ _ hq
theorem sm_sI_other {h : AH} {a : Nat} {f : Nat → Int32} : ∀ c, c ≠ a → am_I (am_rI h a f) c = am_I h c ∧ am_J (am_rI h a f) c = am_J h c ∧ am_R (am_rI h a f) c = am_R h c := fun c hc => ⟨am_ud_ne hc, rfl, rfl⟩
theorem sm_sJ_other {h : AH} {a : Nat} {f : Nat → Int64} : ∀ c, c ≠ a → am_I (am_rJ h a f) c = am_I h c ∧ am_J (am_rJ h a f) c = am_J h c ∧ am_R (am_rJ h a f) c = am_R h c := fun c hc => ⟨rfl, am_ud_ne hc, rfl⟩
theorem sm_sR_other {h : AH} {a : Nat} {f : Nat → Option Nat} : ∀ c, c ≠ a → am_I (am_rR h a f) c = am_I h c ∧ am_J (am_rR h a f) c = am_J h c ∧ am_R (am_rR h a f) c = am_R h c := fun c hc => ⟨rfl, rfl, am_ud_ne hc⟩
def sm_fP (own : String) (idx ci k ft : Nat) : Prop := ∃ r : vw_C, vwCl[ci]? = some r ∧ k < r.2.2 ∧ Cond.fieldLink own idx (r.2.1 k).1 (r.2.1 k).2.1 (r.2.1 k).2.2.1 ∈ sm_GT ∧ ft = sm_ft ci k
theorem sm_fB_P {own : String} {idx ci k ft q : Nat} (h : sm_fB own idx ci k ft q = true) : sm_fP own idx ci k ft := by
  unfold sm_fB at h
  split at h
  · rename_i r hr
    simp only [Bool.and_eq_true, decide_eq_true_eq] at h
    exact ⟨r, hr, h.1, List.mem_filter.mpr ⟨List.mem_of_getElem? h.2.1, rfl⟩, h.2.2⟩
  · cases h
def sm_wP (P : SP) (ci k : Nat) : Prop := ∀ r : vw_C, vwCl[ci]? = some r → (r.2.1 k).2.2.2 = false ∨ (P.1.name = "<init>" ∧ (r.2.1 k).2.2.2 = true ∧ (r.2.1 k).1 = P.1.cls)
theorem sm_wB_P {P : SP} {ci k : Nat} (h : sm_wB (decide (P.1.name = "<init>")) P.1.cls ci k = true) : sm_wP P ci k := by
  intro r hr
  unfold sm_wB at h
  rw [hr] at h
  simp only [Bool.or_eq_true, Bool.and_eq_true, decide_eq_true_eq] at h
  rcases h with h | ⟨h1, h2, h3⟩
  · exact Or.inl h
  · exact Or.inr ⟨h1, h2, h3⟩
theorem sm_fs {μ : Nat → Nat} {h : AH} {ci a k : Nat} (hk : k < sm_nf ci) : ((List.range (sm_nf ci)).map (sm_fv μ h ci a))[k]? = some (sm_fv μ h ci a k) := by
  rw [List.getElem?_map, List.getElem?_range hk]
  rfl
section memory
variable {p : Program} {l : Launch} {e : Env} {R : Room} {s : State} {m : MethodId} {args : Array Value} {below : List Frame} {meth : Method} {c : Code} {Q : State → Prop}
variable {P : SP} {Ts : List Cond} {D : va_G} {dA : Nat → ClassId} {base b L : Nat} {xs : Nat → Int32} {μ0 : Nat → Nat} {n0 cE sE : Nat} {F : AH}
variable {CL : Nat → Nat → Nat → List Value → Nat → List Value → List Value → AH → Prop} {RT : Option Value → AH → Prop} {rk : Nat} {ts : List Nat} {cv : Int32} {cj : Int64} {ls st : List Value} {h : AH} {pc : Nat}
theorem sm_x_getfield (C : sm_cx p R s m args meth c P Ts D dA base b L xs cE sE) {idx ci k ft : Nat} (hf : sm_fP P.1.cls idx ci k ft) (hd : decode P.2.1 pc = .ok (.getfield idx, 3)) (h1 : am_x_getfield (sm_nx p l e R s m args below meth c Q P D dA base b L xs μ0 n0 cE sE F) CL RT False rk (pc + 3) [ci, k, ft] cv cj ls st h) : sm_nx p l e R s m args below meth c Q P D dA base b L xs μ0 n0 cE sE F pc ls st h := by
  obtain ⟨hx, hb, hml, hown, hts, hG, hNT, hAO, hK, hX, hbb, hbs, hin, hfr, hlo, hcE, hsE⟩ := C
  obtain ⟨r, hr, hkr, hlk, hft⟩ := hf
  have hcl := sm_cls hr
  have hnf := hcl.2.2.1
  have hle := (hcl.2.2.2.2.2.2.2.2 k hkr).2.2.2
  have hint : ∀ {a : Nat} {r2 : List Value}, sm_ft ci k ≠ 1 → st = .ref a :: r2 → am_kd h a = ci → (sm_nx p l e R s m args below meth c Q P D dA base b L xs μ0 n0 cE sE F) (pc + 3) ls (.int (am_I h a k) :: r2) h → (sm_nx p l e R s m args below meth c Q P D dA base b L xs μ0 n0 cE sE F) pc ls st h := by
    intro a r2 h01 e hk kk
    subst e
    refine ⟨kk.1, kk.2.1, fun hn μ H locs cells slots A hR hL hw hS hm hc hs => ?_⟩
    obtain ⟨⟨h0, h1'⟩, he⟩ := sm_wl_obj (dA := dA) (μ := μ) hR.2.2.2 hk hcl.1
    exact va_get hx hb hts (fun w z => hG w (hcl.2.2.2.1 w z)) hown hK hR.1 (a - 1) he hr k hkr (hts _ (hG _ hlk)) (fun _ z => z) (v := .int (am_I h a k)) (by rw [sm_fs (hnf ▸ hkr)]; unfold sm_fv; rw [if_neg h01]) hd (kk.2.2 hn μ H locs cells slots A hR hL (sm_wc sm_wv_i (sm_wt hw)) hS hm hc hs)
  rcases (show ft = 0 ∨ ft = 1 ∨ ft = 2 by omega) with rfl | rfl | rfl
  · unfold am_x_getfield at h1
    obtain ⟨a, r2, e, kk⟩ := am_r1_ex h1
    by_cases hk : am_kd h a = ci
    · rw [if_pos hk] at kk
      exact hint (by omega) e hk kk
    · rw [if_neg hk] at kk
      exact kk.elim
  · unfold am_x_getfield at h1
    obtain ⟨a, r2, e, kk⟩ := am_r1_ex h1
    subst e
    by_cases hk : am_kd h a = ci
    · rw [if_pos hk] at kk
      cases ho : am_R h a k with
      | none =>
        rw [ho] at kk
        have kk : (sm_nx p l e R s m args below meth c Q P D dA base b L xs μ0 n0 cE sE F) (pc + 3) ls (.null :: r2) h := kk
        refine ⟨kk.1, kk.2.1, fun hn μ H locs cells slots A hR hL hw hS hm hc hs => ?_⟩
        obtain ⟨⟨h0, h1'⟩, he⟩ := sm_wl_obj (dA := dA) (μ := μ) hR.2.2.2 hk hcl.1
        exact va_get hx hb hts (fun w z => hG w (hcl.2.2.2.1 w z)) hown hK hR.1 (a - 1) he hr k hkr (hts _ (hG _ hlk)) (fun _ z => z) (v := .null) (by rw [sm_fs (hnf ▸ hkr)]; unfold sm_fv; rw [if_pos hft.symm, ho]; rfl) hd (kk.2.2 hn μ H locs cells slots A hR hL (sm_wc sm_wv_n (sm_wt hw)) hS hm hc hs)
      | some d =>
        rw [ho] at kk
        have kk : (sm_nx p l e R s m args below meth c Q P D dA base b L xs μ0 n0 cE sE F) (pc + 3) ls (.ref d :: r2) h := kk
        refine ⟨kk.1, kk.2.1, fun hn μ H locs cells slots A hR hL hw hS hm hc hs => ?_⟩
        obtain ⟨⟨h0, h1'⟩, he⟩ := sm_wl_obj (dA := dA) (μ := μ) hR.2.2.2 hk hcl.1
        exact va_get hx hb hts (fun w z => hG w (hcl.2.2.2.1 w z)) hown hK hR.1 (a - 1) he hr k hkr (hts _ (hG _ hlk)) (fun _ z => z) (v := .ref (μ d)) (by rw [sm_fs (hnf ▸ hkr)]; unfold sm_fv; rw [if_pos hft.symm, ho]; rfl) hd (kk.2.2 hn μ H locs cells slots A hR hL (sm_wc (sm_wv_r (hR.2.2.2.2.2.2 _ _ _ ho)) (sm_wt hw)) hS hm hc hs)
    · rw [if_neg hk] at kk
      exact kk.elim
  · unfold am_x_getfield at h1
    obtain ⟨a, r2, e, kk⟩ := am_r1_ex h1
    by_cases hk : am_kd h a = ci
    · rw [if_pos hk] at kk
      exact hint (by omega) e hk kk
    · rw [if_neg hk] at kk
      exact kk.elim
theorem sm_x_put (C : sm_cx p R s m args meth c P Ts D dA base b L xs cE sE) {idx ci k ft : Nat} (hf : sm_fP P.1.cls idx ci k ft) (hwp : sm_wP P ci k) (hd : decode P.2.1 pc = .ok (.putfield idx, 3)) {a : Nat} {v : Value} {r2 : List Value} {h' : AH} (hk : am_kd h a = ci) (ht : h'.1 = h.1) (hs' : ∀ c, c ≠ a → am_I h' c = am_I h c ∧ am_J h' c = am_J h c ∧ am_R h' c = am_R h c)
    (hfv : ∀ μ j, sm_fv μ h' ci a j = if j = k then sm_v μ v else sm_fv μ h ci a j) (hwf : sm_WF L xs h → sm_wv h.1.length v → sm_WF L xs h') (hfit : ∀ μ, narrow (sm_tyf ci k) (sm_v μ v) = sm_v μ v ∧ fits (sm_tyf ci k) (sm_v μ v) = true)
    (kk : sm_nx p l e R s m args below meth c Q P D dA base b L xs μ0 n0 cE sE F (pc + 3) ls r2 h') : sm_nx p l e R s m args below meth c Q P D dA base b L xs μ0 n0 cE sE F pc ls (v :: .ref a :: r2) h := by
  obtain ⟨hx, hb, hml, hown, hts, hG, hNT, hAO, hK, hX, hbb, hbs, hin, hfr, hlo, hcE, hsE⟩ := C
  obtain ⟨r, hr, hkr, hlk, hft⟩ := hf
  have hcl := sm_cls hr
  have hnf := hcl.2.2.1
  have hln : h'.1.length = h.1.length := by rw [ht]
  have hsz : sm_sz h' = sm_sz h := by unfold sm_sz; rw [ht]
  refine ⟨hln ▸ kk.1, hsz ▸ kk.2.1, fun hn μ H locs cells slots A hR hL hw hS hm hc hs => ?_⟩
  obtain ⟨⟨h0, h1'⟩, he⟩ := sm_wl_obj (dA := dA) (μ := μ) hR.2.2.2 hk hcl.1
  have hfin : ∀ (H1 : Heap) (locs1 : List Loc), va_P D vwCl ((sm_wl dA μ h).set (a - 1) (μ a, .inr (ci, ((List.range (sm_nf ci)).map (sm_fv μ h ci a)).set k (sm_v μ v)))) H1 → va_D (fun q => base ≤ q) ((sm_wl dA μ h).set (a - 1) (μ a, .inr (ci, ((List.range (sm_nf ci)).map (sm_fv μ h ci a)).set k (sm_v μ v)))) → va_S (fun q => base ≤ q) s.heap H1 locs1 → W p l e R s m args below meth c H1 locs1 cells slots Q (F0 m (pc + 3) A (r2.map (sm_v μ))) := by
    intro H1 locs1 hP1 hD1 hS1
    rw [sm_wl_put hR.2.2.2 hk hcl.1 ht hs' (hfv μ)] at hP1 hD1
    exact kk.2.2 (hln ▸ hn) μ H1 locs1 cells slots A ⟨hP1, hD1, hR.2.2.1, hwf hR.2.2.2 (hw _ List.mem_cons_self)⟩ (hln ▸ hL) (hln ▸ sm_wt (sm_wt hw)) hS1 hm (hln ▸ hc) (hsz ▸ hs)
  rcases hwp r hr with hf | ⟨hi, hf, ho⟩
  · exact va_put hx hb hts (fun w z => hG w (hcl.2.2.2.1 w z)) (sm_tyf ci) hcl.2.2.2.2.1 hcl.2.2.2.2.2.1 hown hK hR.1 hR.2.1 hS (a - 1) he hr k hkr (hts _ (hG _ hlk)) (fun _ z => z) hf (hcl.2.2.2.2.1 k hkr) (hfit μ).1 (hfit μ).2 (by simpa [hnf] using hkr) hd hfin
  · exact va_putF hx hb hts (fun w z => hG w (hcl.2.2.2.1 w z)) (sm_tyf ci) hcl.2.2.2.2.1 hcl.2.2.2.2.2.1 hown hK hR.1 hR.2.1 hS (a - 1) he hr k hkr (hts _ (hG _ hlk)) (fun _ z => z) hf (hin hi) ho (hcl.2.2.2.2.1 k hkr) (hfit μ).1 (hfit μ).2 (by simpa [hnf] using hkr) hd hfin
theorem sm_x_putfield (C : sm_cx p R s m args meth c P Ts D dA base b L xs cE sE) {idx ci k ft : Nat} (hf : sm_fP P.1.cls idx ci k ft) (hwp : sm_wP P ci k) (hd : decode P.2.1 pc = .ok (.putfield idx, 3)) (h1 : am_x_putfield (sm_nx p l e R s m args below meth c Q P D dA base b L xs μ0 n0 cE sE F) CL RT False rk (pc + 3) [ci, k, ft] cv cj ls st h) : sm_nx p l e R s m args below meth c Q P D dA base b L xs μ0 n0 cE sE F pc ls st h := by
  obtain ⟨r, hr, hkr, hlk, hft⟩ := id hf
  have hcl := sm_cls hr
  obtain ⟨ty0, ty2, ty1, hle⟩ := hcl.2.2.2.2.2.2.2.2 k hkr
  have intFv : ∀ {a : Nat} {x : Int32}, sm_ft ci k ≠ 1 → ∀ (μ : Nat → Nat) (j : Nat), sm_fv μ (am_sI h a k x) ci a j = if j = k then sm_v μ (.int x) else sm_fv μ h ci a j := by
    intro a x h1 μ j
    unfold sm_fv
    by_cases hj : j = k
    · subst hj
      rw [if_neg h1, if_pos rfl]
      show Value.int (am_ud (am_I h) a (am_ud (am_I h a) j x) a j) = .int x
      rw [am_ud_eq, am_ud_eq]
    · rw [if_neg hj]
      show (if sm_ft ci j = 1 then _ else Value.int (am_ud (am_I h) a (am_ud (am_I h a) k x) a j)) = _
      rw [am_ud_eq, am_ud_ne hj]
      rfl
  rcases (show ft = 0 ∨ ft = 1 ∨ ft = 2 by omega) with rfl | rfl | rfl
  · unfold am_x_putfield at h1
    obtain ⟨a, x, r2, e, kk⟩ := am_ri_ex h1
    subst e
    by_cases hk : am_kd h a = ci
    · rw [if_pos hk] at kk
      exact sm_x_put C hf hwp hd (h' := am_sI h a k x) hk rfl sm_sI_other (intFv (by omega)) (fun w _ => w.rI (w.pos hk (by have := hcl.1; omega))) (fun μ => by rw [ty0 hft.symm]; exact ⟨rfl, rfl⟩) kk
    · rw [if_neg hk] at kk
      exact kk.elim
  · unfold am_x_putfield at h1
    obtain ⟨a, x, r2, e, kk⟩ := am_rr_ex h1
    subst e
    by_cases hk : am_kd h a = ci
    · rw [if_pos hk] at kk
      refine sm_x_put C hf hwp hd (h' := am_sR h a k x) hk rfl sm_sR_other (fun μ j => ?_) (fun w hv => w.sR (fun d hd' => ?_)) (fun μ => ?_) kk
      · unfold sm_fv
        by_cases hj : j = k
        · subst hj
          rw [if_pos hft.symm, if_pos rfl]
          show va_rf ((am_ud (am_R h) a (am_ud (am_R h a) j x) a j).map μ) = _
          rw [am_ud_eq, am_ud_eq]
          cases x <;> rfl
        · rw [if_neg hj]
          show (if sm_ft ci j = 1 then va_rf ((am_ud (am_R h) a (am_ud (am_R h a) k x) a j).map μ) else _) = _
          rw [am_ud_eq, am_ud_ne hj]
          rfl
      · subst hd'
        exact hv d (Or.inl rfl)
      · rcases ty1 hft.symm with ⟨nm, e⟩ | ⟨nm, e⟩ <;> rw [e] <;> cases x <;> exact ⟨rfl, rfl⟩
    · rw [if_neg hk] at kk
      exact kk.elim
  · unfold am_x_putfield at h1
    obtain ⟨a, x, r2, e, kk⟩ := am_ri_ex h1
    subst e
    by_cases hk : am_kd h a = ci
    · rw [if_pos hk] at kk
      by_cases hx2 : x = 0 ∨ x = 1
      · rw [if_pos hx2] at kk
        exact sm_x_put C hf hwp hd (h' := am_sI h a k x) hk rfl sm_sI_other (intFv (by omega)) (fun w _ => w.rI (w.pos hk (by have := hcl.1; omega))) (fun μ => by rw [ty2 hft.symm]; rcases hx2 with rfl | rfl <;> first | exact ⟨(by decide : narrow .boolean (.int 0) = .int 0), (by decide : fits .boolean (.int 0) = true)⟩ | exact ⟨(by decide : narrow .boolean (.int 1) = .int 1), (by decide : fits .boolean (.int 1) = true)⟩) kk
      · rw [if_neg hx2] at kk
        exact kk.elim
    · rw [if_neg hk] at kk
      exact kk.elim
end memory
