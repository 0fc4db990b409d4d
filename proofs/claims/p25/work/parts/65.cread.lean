def cT (h h1 : AH) : Prop := am_fr h h1 (fun b => b = 15 ∨ b = 17) ∧ am_I h1 15 0 = am_I h 15 0
theorem cT.rf {h : AH} : cT h h := ⟨am_fr.rf, rfl⟩
theorem cT.tr {h h1 h2 : AH} (a : cT h h1) (b : cT h1 h2) : cT h h2 := ⟨a.1.tr b.1, b.2.trans a.2⟩
theorem cT.I {h h1 : AH} {A : QA} (T : cT h h1) (I : cI h A) : cI h1 A := I.pd (T.1.wk (fun b z => z.elim Or.inl (fun z => Or.inr (Or.inr z)))) (T.2.trans I.2.2.2.2.2.1) I.2.2.2.2.2.2.1 (fun k hk => by rw [T.1.2.2.1 16 (by omega)]; exact I.2.2.2.2.2.2.2 k hk)
theorem cT.sI {h : AH} {k : Nat} {v : Int32} (hk : k ≠ 0) : cT h (am_sI h 15 k v) := ⟨am_sI_fr (Or.inl rfl), by rw [am_sI_I, am_ud_ne (by omega)]⟩
section cread
variable {h : AH} {A : QA}
end cread
