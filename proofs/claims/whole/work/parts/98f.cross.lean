/-! ===== each side leaves the other alone ===== -/
section cross
variable {h h1 : AH} {A : QA}
/-- the Model's rows are the same -/
def mSm (h h1 : AH) : Prop := ∀ b, 20 ≤ b → b < 34 → am_kd h1 b = am_kd h b ∧ am_ln h1 b = am_ln h b ∧ am_R h1 b = am_R h b ∧ am_I h1 b = am_I h b ∧ am_J h1 b = am_J h b
theorem mL.sm (m : mL h) (e : mSm h h1) : mL h1 := by
  obtain ⟨z0, z1, z2, z3, z4, z5, z6, z7, z8, z9, z10, z11, z12, z13, z14, z15, z16, z17, z18, z19, z20, z21, z22, z23, z24, z25, z26, z27, z28, z29, z30, z31, z32, z33, z34, z35, z36, z37, z38, z39⟩ := m
  have k : ∀ b, 20 ≤ b → b < 34 → am_kd h1 b = am_kd h b ∧ am_ln h1 b = am_ln h b ∧ am_R h1 b = am_R h b := fun b h1 h2 => ⟨(e b h1 h2).1, (e b h1 h2).2.1, (e b h1 h2).2.2.1⟩
  exact ⟨(k 20 (by omega) (by omega)).1.trans z0, (congrFun (k 20 (by omega) (by omega)).2.2 0).trans z1, (congrFun (k 20 (by omega) (by omega)).2.2 1).trans z2, (congrFun (k 20 (by omega) (by omega)).2.2 3).trans z3, (congrFun (k 20 (by omega) (by omega)).2.2 4).trans z4, (congrFun (k 20 (by omega) (by omega)).2.2 8).trans z5, (congrFun (k 20 (by omega) (by omega)).2.2 9).trans z6, (congrFun (k 20 (by omega) (by omega)).2.2 12).trans z7, (congrFun (k 20 (by omega) (by omega)).2.2 13).trans z8, (congrFun (k 20 (by omega) (by omega)).2.2 14).trans z9, (congrFun (k 20 (by omega) (by omega)).2.2 15).trans z10, (congrFun (k 20 (by omega) (by omega)).2.2 16).trans z11, (congrFun (k 20 (by omega) (by omega)).2.2 18).trans z12, (congrFun (k 20 (by omega) (by omega)).2.2 19).trans z13, (k 21 (by omega) (by omega)).1.trans z14, (k 22 (by omega) (by omega)).1.trans z15, (k 23 (by omega) (by omega)).1.trans z16, (k 24 (by omega) (by omega)).1.trans z17, (k 25 (by omega) (by omega)).1.trans z18, (k 26 (by omega) (by omega)).1.trans z19, (k 27 (by omega) (by omega)).1.trans z20, (k 28 (by omega) (by omega)).1.trans z21, (k 29 (by omega) (by omega)).1.trans z22, (k 30 (by omega) (by omega)).1.trans z23, (k 31 (by omega) (by omega)).1.trans z24, (k 32 (by omega) (by omega)).1.trans z25, (k 33 (by omega) (by omega)).1.trans z26, (k 21 (by omega) (by omega)).2.1.trans z27, (k 22 (by omega) (by omega)).2.1.trans z28, (k 23 (by omega) (by omega)).2.1.trans z29, (k 24 (by omega) (by omega)).2.1.trans z30, (k 25 (by omega) (by omega)).2.1.trans z31, (k 26 (by omega) (by omega)).2.1.trans z32, (k 27 (by omega) (by omega)).2.1.trans z33, (k 28 (by omega) (by omega)).2.1.trans z34, (k 29 (by omega) (by omega)).2.1.trans z35, (k 30 (by omega) (by omega)).2.1.trans z36, (k 31 (by omega) (by omega)).2.1.trans z37, (k 32 (by omega) (by omega)).2.1.trans z38, (k 33 (by omega) (by omega)).2.1.trans z39⟩
theorem mSl.sm {i : Nat} {o : Option QS} (v : mSl h i o) (e : mSm h h1) : mSl h1 i o := by
  cases o with
  | none =>
    show am_I h1 24 i = 0
    rw [(e 24 (by omega) (by omega)).2.2.2.1]
    exact v
  | some s =>
    show am_I h1 24 i = nI 1 ∧ hV (fun k => am_I h1 23 (26 * i + k)) s
    rw [(e 24 (by omega) (by omega)).2.2.2.1, (e 23 (by omega) (by omega)).2.2.2.1]
    exact v
theorem mI.sm (I : mI h A) (e : mSm h h1) : mI h1 A := by
  obtain ⟨i1, i2, i3, ⟨i4, i5, i6⟩, i7, i8, i9, i10⟩ := I
  refine ⟨i1.sm e, by rw [(e 21 (by omega) (by omega)).2.2.2.1]; exact i2, i3, ⟨by rw [(e 20 (by omega) (by omega)).2.2.2.1]; exact i4, i5, fun i hi => by rw [(e 22 (by omega) (by omega)).2.2.2.1]; exact i6 i hi⟩, fun i hi => (i7 i hi).sm e, by rw [(e 20 (by omega) (by omega)).2.2.2.1]; exact i8, i9, fun k hk => by rw [(e 31 (by omega) (by omega)).2.2.2.1]; exact i10 k hk⟩
theorem mE.sm {s : QS} (X : mE h s) (e : mSm h h1) : mE h1 s := by
  rcases X with z | ⟨z, E, l, e1, e2, e3⟩
  · exact Or.inl (by rw [(e 20 (by omega) (by omega)).2.2.2.1]; exact z)
  · exact Or.inr ⟨by rw [(e 20 (by omega) (by omega)).2.2.2.1]; exact z, E, l, by rw [(e 20 (by omega) (by omega)).2.2.2.1]; exact e1, fun i hi k hk => by rw [(e 25 (by omega) (by omega)).2.2.2.2]; exact e2 i hi k hk, fun i hi => by rw [(e 26 (by omega) (by omega)).2.2.2.2]; exact e3 i hi⟩
theorem cF.mSm (f : cF h h1 cM) (h34 : 34 ≤ h.1.length) : mSm h h1 := fun b b1 b2 => by
  have k := f.kd (show b < h.1.length by omega)
  have r := f.2 b (by omega) (fun z => by unfold cM at z; omega)
  exact ⟨k.1, k.2, r.2.2, r.1, r.2.1⟩
theorem cI.m (I : cI h A) (f : mfr h h1) : cI h1 A := by
  obtain ⟨i1, i2, i3, i4, i5, i6, i7, i8⟩ := id I
  have eI : ∀ b, b < 20 ∨ 34 ≤ b → am_I h1 b = am_I h b := fun b hb => f.2.2.1 b (by omega)
  have ek : ∀ b, am_kd h1 b = am_kd h b := fun b => f.kd b
  have el : ∀ b, am_ln h1 b = am_ln h b := fun b => f.ln b
  have er : am_R h1 = am_R h := f.2.1
  have e1 : h1.1 = h.1 := f.1
  have hs : ∀ a c, a = 2 ∨ 34 ≤ a → sS h a c → sS h1 a c := fun a c ha v => v.cp (fun j hj => ⟨ek _, el _, eI _ (by omega)⟩) (by rw [er])
  have hv : ∀ a s, a = 2 ∨ 34 ≤ a → sV h a s → sV h1 a s := fun a s ha v => v.cp (fun j hj => ⟨ek _, el _, eI _ (by omega)⟩) (by rw [er])
  have hr : ∀ i, cr h1 i = cr h i := fun i => by
    unfold cr
    rw [er]
  refine ⟨?_, ⟨by rw [e1]; exact i2.1, fun i hi a ea => ?_, fun i j hij hj a ea => ?_⟩, hv 2 _ (Or.inl rfl) i3, ⟨by rw [eI 1 (by omega)]; exact i4.1, i4.2.1, fun i hi => ?_⟩, fun i hi => (i5 i hi).mv i2 hi (hr _) (fun a s ha _ v => hv a s ha v), by rw [eI 15 (by omega)]; exact i6, i7, by rw [eI 16 (by omega)]; exact i8⟩
  · unfold cL
    simp only [ek, el, e1, er]
    exact i1
  · rw [hr] at ea
    obtain ⟨q1, q2, q3, c, q4⟩ := i2.2.1 i hi a ea
    exact ⟨q1, q2, by rw [e1]; exact q3, c, hs a c (Or.inr q1) q4⟩
  · rw [hr] at ea ⊢
    exact i2.2.2 i j hij hj a ea
  · obtain ⟨a, ea, va, ha, -⟩ := I.h hi
    exact ⟨a, by rw [er]; exact ea, hv a _ (Or.inr ha) va⟩
theorem xE.m (C : xE h) (f : mfr h h1) : xE h1 := C.same (am_fr.sm f (fun a z => by omega))
end cross
