/-! ===== the memory only grows ===== -/
theorem am_exe_imp {nx nx' : Nat → List Value → List Value → AH → Prop} {cl cl' : Nat → Nat → Nat → List Value → Nat → List Value → List Value → AH → Prop} {rt rt' : Option Value → AH → Prop} (hn : ∀ a b c d, nx a b c d → nx' a b c d) (hc : ∀ a b c d e g i j, cl a b c d e g i j → cl' a b c d e g i j) (hr : ∀ v h, rt v h → rt' v h) {rk : Nat} {i : Instr} {n : Nat} {ts : List Nat} {cv : Int32} {cj : Int64} {ls st : List Value} {h : AH} (h1 : am_exe nx cl rt False rk i n ts cv cj ls st h) : am_exe nx' cl' rt' False rk i n ts cv cj ls st h := by
  have e1 := am_exe_nat (fun p : Prop × Prop => p.1) (fun a b c d => (nx a b c d, nx' a b c d)) (fun a b c d e g i j => (cl a b c d e g i j, cl' a b c d e g i j)) (fun v h => (rt v h, rt' v h)) (False, False) rk i n ts cv cj ls st h
  have e2 := am_exe_nat (fun p : Prop × Prop => p.2) (fun a b c d => (nx a b c d, nx' a b c d)) (fun a b c d e g i j => (cl a b c d e g i j, cl' a b c d e g i j)) (fun v h => (rt v h, rt' v h)) (False, False) rk i n ts cv cj ls st h
  dsimp only at e1 e2
  rw [← e1] at h1
  rw [← e2]
  have key : ∀ (p : Prop × Prop), (∃ q : {p : Prop × Prop // p.1 → p.2}, q.1 = p) → p.1 → p.2 := fun p ⟨q, h⟩ => h ▸ q.2
  refine key _ ⟨am_exe (fun a b c d => ⟨(nx a b c d, nx' a b c d), hn a b c d⟩) (fun a b c d e g i j => ⟨(cl a b c d e g i j, cl' a b c d e g i j), hc a b c d e g i j⟩) (fun v h => ⟨(rt v h, rt' v h), hr v h⟩) ⟨(False, False), fun z => z⟩ rk i n ts cv cj ls st h, ?_⟩ h1
  exact am_exe_nat (fun q : {p : Prop × Prop // p.1 → p.2} => q.1) _ _ _ _ rk i n ts cv cj ls st h
section len
variable {B : AH → Prop} {rk n : Nat} {ts : List Nat} {cv : Int32} {cj : Int64} {ls st : List Value} {h : AH}
theorem am_len_cI (hI : ∀ h a f, B (am_rI h a f) → B h) (hJ : ∀ h a f, B (am_rJ h a f) → B h) (hR : ∀ h a f, B (am_rR h a f) → B h) (hN : ∀ h k n, B (am_nw h k n) → B h) (h1 : am_x_cI (fun _ _ _ h' => B h') (fun _ _ _ _ _ _ _ h' => B h') (fun _ h' => B h') False rk n ts cv cj ls st h) : B h := by
  unfold am_x_cI at h1
  have k := h1
  (repeat' split at k) <;> first | exact k | exact k.elim | exact hI _ _ _ k | exact hJ _ _ _ k | exact hR _ _ _ k | exact hN _ _ _ k
theorem am_len_cJ (hI : ∀ h a f, B (am_rI h a f) → B h) (hJ : ∀ h a f, B (am_rJ h a f) → B h) (hR : ∀ h a f, B (am_rR h a f) → B h) (hN : ∀ h k n, B (am_nw h k n) → B h) (h1 : am_x_cJ (fun _ _ _ h' => B h') (fun _ _ _ _ _ _ _ h' => B h') (fun _ h' => B h') False rk n ts cv cj ls st h) : B h := by
  unfold am_x_cJ at h1
  have k := h1
  (repeat' split at k) <;> first | exact k | exact k.elim | exact hI _ _ _ k | exact hJ _ _ _ k | exact hR _ _ _ k | exact hN _ _ _ k
theorem am_len_aconst_null (hI : ∀ h a f, B (am_rI h a f) → B h) (hJ : ∀ h a f, B (am_rJ h a f) → B h) (hR : ∀ h a f, B (am_rR h a f) → B h) (hN : ∀ h k n, B (am_nw h k n) → B h) (h1 : am_x_aconst_null (fun _ _ _ h' => B h') (fun _ _ _ _ _ _ _ h' => B h') (fun _ h' => B h') False rk n ts cv cj ls st h) : B h := by
  unfold am_x_aconst_null at h1
  have k := h1
  (repeat' split at k) <;> first | exact k | exact k.elim | exact hI _ _ _ k | exact hJ _ _ _ k | exact hR _ _ _ k | exact hN _ _ _ k
theorem am_len_iload {k0 : Nat} (hI : ∀ h a f, B (am_rI h a f) → B h) (hJ : ∀ h a f, B (am_rJ h a f) → B h) (hR : ∀ h a f, B (am_rR h a f) → B h) (hN : ∀ h k n, B (am_nw h k n) → B h) (h1 : am_x_iload k0 (fun _ _ _ h' => B h') (fun _ _ _ _ _ _ _ h' => B h') (fun _ h' => B h') False rk n ts cv cj ls st h) : B h := by
  unfold am_x_iload at h1
  obtain ⟨x, e, k⟩ := am_ldI_ex h1
  (try unfold am_oe at k)
  (repeat' split at k) <;> first | exact k | exact k.elim | exact hI _ _ _ k | exact hJ _ _ _ k | exact hR _ _ _ k | exact hN _ _ _ k
theorem am_len_lload {k0 : Nat} (hI : ∀ h a f, B (am_rI h a f) → B h) (hJ : ∀ h a f, B (am_rJ h a f) → B h) (hR : ∀ h a f, B (am_rR h a f) → B h) (hN : ∀ h k n, B (am_nw h k n) → B h) (h1 : am_x_lload k0 (fun _ _ _ h' => B h') (fun _ _ _ _ _ _ _ h' => B h') (fun _ h' => B h') False rk n ts cv cj ls st h) : B h := by
  unfold am_x_lload at h1
  obtain ⟨x, e, k⟩ := am_ldJ_ex h1
  (try unfold am_oe at k)
  (repeat' split at k) <;> first | exact k | exact k.elim | exact hI _ _ _ k | exact hJ _ _ _ k | exact hR _ _ _ k | exact hN _ _ _ k
theorem am_len_aload {k0 : Nat} (hI : ∀ h a f, B (am_rI h a f) → B h) (hJ : ∀ h a f, B (am_rJ h a f) → B h) (hR : ∀ h a f, B (am_rR h a f) → B h) (hN : ∀ h k n, B (am_nw h k n) → B h) (h1 : am_x_aload k0 (fun _ _ _ h' => B h') (fun _ _ _ _ _ _ _ h' => B h') (fun _ h' => B h') False rk n ts cv cj ls st h) : B h := by
  unfold am_x_aload at h1
  obtain ⟨x, e, k⟩ := am_ldA_ex h1
  (try unfold am_oe at k)
  (repeat' split at k) <;> first | exact k | exact k.elim | exact hI _ _ _ k | exact hJ _ _ _ k | exact hR _ _ _ k | exact hN _ _ _ k
theorem am_len_istore {k0 : Nat} (hI : ∀ h a f, B (am_rI h a f) → B h) (hJ : ∀ h a f, B (am_rJ h a f) → B h) (hR : ∀ h a f, B (am_rR h a f) → B h) (hN : ∀ h k n, B (am_nw h k n) → B h) (h1 : am_x_istore k0 (fun _ _ _ h' => B h') (fun _ _ _ _ _ _ _ h' => B h') (fun _ h' => B h') False rk n ts cv cj ls st h) : B h := by
  unfold am_x_istore at h1
  obtain ⟨x, r, e, k⟩ := am_i1_ex h1
  (try unfold am_oe at k)
  (repeat' split at k) <;> first | exact k | exact k.elim | exact hI _ _ _ k | exact hJ _ _ _ k | exact hR _ _ _ k | exact hN _ _ _ k
theorem am_len_lstore {k0 : Nat} (hI : ∀ h a f, B (am_rI h a f) → B h) (hJ : ∀ h a f, B (am_rJ h a f) → B h) (hR : ∀ h a f, B (am_rR h a f) → B h) (hN : ∀ h k n, B (am_nw h k n) → B h) (h1 : am_x_lstore k0 (fun _ _ _ h' => B h') (fun _ _ _ _ _ _ _ h' => B h') (fun _ h' => B h') False rk n ts cv cj ls st h) : B h := by
  unfold am_x_lstore at h1
  obtain ⟨x, r, e, k⟩ := am_l1_ex h1
  (try unfold am_oe at k)
  (repeat' split at k) <;> first | exact k | exact k.elim | exact hI _ _ _ k | exact hJ _ _ _ k | exact hR _ _ _ k | exact hN _ _ _ k
theorem am_len_astore {k0 : Nat} (hI : ∀ h a f, B (am_rI h a f) → B h) (hJ : ∀ h a f, B (am_rJ h a f) → B h) (hR : ∀ h a f, B (am_rR h a f) → B h) (hN : ∀ h k n, B (am_nw h k n) → B h) (h1 : am_x_astore k0 (fun _ _ _ h' => B h') (fun _ _ _ _ _ _ _ h' => B h') (fun _ h' => B h') False rk n ts cv cj ls st h) : B h := by
  unfold am_x_astore at h1
  obtain ⟨x, r, e, k⟩ := am_o1_ex h1
  (try unfold am_oe at k)
  (repeat' split at k) <;> first | exact k | exact k.elim | exact hI _ _ _ k | exact hJ _ _ _ k | exact hR _ _ _ k | exact hN _ _ _ k
theorem am_len_iinc {k0 : Nat} (hI : ∀ h a f, B (am_rI h a f) → B h) (hJ : ∀ h a f, B (am_rJ h a f) → B h) (hR : ∀ h a f, B (am_rR h a f) → B h) (hN : ∀ h k n, B (am_nw h k n) → B h) (h1 : am_x_iinc k0 (fun _ _ _ h' => B h') (fun _ _ _ _ _ _ _ h' => B h') (fun _ h' => B h') False rk n ts cv cj ls st h) : B h := by
  unfold am_x_iinc at h1
  obtain ⟨x, e, k⟩ := am_ldI_ex h1
  (try unfold am_oe at k)
  (repeat' split at k) <;> first | exact k | exact k.elim | exact hI _ _ _ k | exact hJ _ _ _ k | exact hR _ _ _ k | exact hN _ _ _ k
theorem am_len_iadd (hI : ∀ h a f, B (am_rI h a f) → B h) (hJ : ∀ h a f, B (am_rJ h a f) → B h) (hR : ∀ h a f, B (am_rR h a f) → B h) (hN : ∀ h k n, B (am_nw h k n) → B h) (h1 : am_x_iadd (fun _ _ _ h' => B h') (fun _ _ _ _ _ _ _ h' => B h') (fun _ h' => B h') False rk n ts cv cj ls st h) : B h := by
  unfold am_x_iadd at h1
  obtain ⟨x, y, r, e, k⟩ := am_i2_ex h1
  (try unfold am_oe at k)
  (repeat' split at k) <;> first | exact k | exact k.elim | exact hI _ _ _ k | exact hJ _ _ _ k | exact hR _ _ _ k | exact hN _ _ _ k
theorem am_len_isub (hI : ∀ h a f, B (am_rI h a f) → B h) (hJ : ∀ h a f, B (am_rJ h a f) → B h) (hR : ∀ h a f, B (am_rR h a f) → B h) (hN : ∀ h k n, B (am_nw h k n) → B h) (h1 : am_x_isub (fun _ _ _ h' => B h') (fun _ _ _ _ _ _ _ h' => B h') (fun _ h' => B h') False rk n ts cv cj ls st h) : B h := by
  unfold am_x_isub at h1
  obtain ⟨x, y, r, e, k⟩ := am_i2_ex h1
  (try unfold am_oe at k)
  (repeat' split at k) <;> first | exact k | exact k.elim | exact hI _ _ _ k | exact hJ _ _ _ k | exact hR _ _ _ k | exact hN _ _ _ k
theorem am_len_imul (hI : ∀ h a f, B (am_rI h a f) → B h) (hJ : ∀ h a f, B (am_rJ h a f) → B h) (hR : ∀ h a f, B (am_rR h a f) → B h) (hN : ∀ h k n, B (am_nw h k n) → B h) (h1 : am_x_imul (fun _ _ _ h' => B h') (fun _ _ _ _ _ _ _ h' => B h') (fun _ h' => B h') False rk n ts cv cj ls st h) : B h := by
  unfold am_x_imul at h1
  obtain ⟨x, y, r, e, k⟩ := am_i2_ex h1
  (try unfold am_oe at k)
  (repeat' split at k) <;> first | exact k | exact k.elim | exact hI _ _ _ k | exact hJ _ _ _ k | exact hR _ _ _ k | exact hN _ _ _ k
theorem am_len_iand (hI : ∀ h a f, B (am_rI h a f) → B h) (hJ : ∀ h a f, B (am_rJ h a f) → B h) (hR : ∀ h a f, B (am_rR h a f) → B h) (hN : ∀ h k n, B (am_nw h k n) → B h) (h1 : am_x_iand (fun _ _ _ h' => B h') (fun _ _ _ _ _ _ _ h' => B h') (fun _ h' => B h') False rk n ts cv cj ls st h) : B h := by
  unfold am_x_iand at h1
  obtain ⟨x, y, r, e, k⟩ := am_i2_ex h1
  (try unfold am_oe at k)
  (repeat' split at k) <;> first | exact k | exact k.elim | exact hI _ _ _ k | exact hJ _ _ _ k | exact hR _ _ _ k | exact hN _ _ _ k
theorem am_len_ior (hI : ∀ h a f, B (am_rI h a f) → B h) (hJ : ∀ h a f, B (am_rJ h a f) → B h) (hR : ∀ h a f, B (am_rR h a f) → B h) (hN : ∀ h k n, B (am_nw h k n) → B h) (h1 : am_x_ior (fun _ _ _ h' => B h') (fun _ _ _ _ _ _ _ h' => B h') (fun _ h' => B h') False rk n ts cv cj ls st h) : B h := by
  unfold am_x_ior at h1
  obtain ⟨x, y, r, e, k⟩ := am_i2_ex h1
  (try unfold am_oe at k)
  (repeat' split at k) <;> first | exact k | exact k.elim | exact hI _ _ _ k | exact hJ _ _ _ k | exact hR _ _ _ k | exact hN _ _ _ k
theorem am_len_ixor (hI : ∀ h a f, B (am_rI h a f) → B h) (hJ : ∀ h a f, B (am_rJ h a f) → B h) (hR : ∀ h a f, B (am_rR h a f) → B h) (hN : ∀ h k n, B (am_nw h k n) → B h) (h1 : am_x_ixor (fun _ _ _ h' => B h') (fun _ _ _ _ _ _ _ h' => B h') (fun _ h' => B h') False rk n ts cv cj ls st h) : B h := by
  unfold am_x_ixor at h1
  obtain ⟨x, y, r, e, k⟩ := am_i2_ex h1
  (try unfold am_oe at k)
  (repeat' split at k) <;> first | exact k | exact k.elim | exact hI _ _ _ k | exact hJ _ _ _ k | exact hR _ _ _ k | exact hN _ _ _ k
theorem am_len_idiv (hI : ∀ h a f, B (am_rI h a f) → B h) (hJ : ∀ h a f, B (am_rJ h a f) → B h) (hR : ∀ h a f, B (am_rR h a f) → B h) (hN : ∀ h k n, B (am_nw h k n) → B h) (h1 : am_x_idiv (fun _ _ _ h' => B h') (fun _ _ _ _ _ _ _ h' => B h') (fun _ h' => B h') False rk n ts cv cj ls st h) : B h := by
  unfold am_x_idiv at h1
  obtain ⟨x, y, r, e, k⟩ := am_i2_ex h1
  (try unfold am_oe at k)
  (repeat' split at k) <;> first | exact k | exact k.elim | exact hI _ _ _ k | exact hJ _ _ _ k | exact hR _ _ _ k | exact hN _ _ _ k
theorem am_len_irem (hI : ∀ h a f, B (am_rI h a f) → B h) (hJ : ∀ h a f, B (am_rJ h a f) → B h) (hR : ∀ h a f, B (am_rR h a f) → B h) (hN : ∀ h k n, B (am_nw h k n) → B h) (h1 : am_x_irem (fun _ _ _ h' => B h') (fun _ _ _ _ _ _ _ h' => B h') (fun _ h' => B h') False rk n ts cv cj ls st h) : B h := by
  unfold am_x_irem at h1
  obtain ⟨x, y, r, e, k⟩ := am_i2_ex h1
  (try unfold am_oe at k)
  (repeat' split at k) <;> first | exact k | exact k.elim | exact hI _ _ _ k | exact hJ _ _ _ k | exact hR _ _ _ k | exact hN _ _ _ k
theorem am_len_ishl (hI : ∀ h a f, B (am_rI h a f) → B h) (hJ : ∀ h a f, B (am_rJ h a f) → B h) (hR : ∀ h a f, B (am_rR h a f) → B h) (hN : ∀ h k n, B (am_nw h k n) → B h) (h1 : am_x_ishl (fun _ _ _ h' => B h') (fun _ _ _ _ _ _ _ h' => B h') (fun _ h' => B h') False rk n ts cv cj ls st h) : B h := by
  unfold am_x_ishl at h1
  obtain ⟨x, y, r, e, k⟩ := am_i2_ex h1
  (try unfold am_oe at k)
  (repeat' split at k) <;> first | exact k | exact k.elim | exact hI _ _ _ k | exact hJ _ _ _ k | exact hR _ _ _ k | exact hN _ _ _ k
theorem am_len_ishr (hI : ∀ h a f, B (am_rI h a f) → B h) (hJ : ∀ h a f, B (am_rJ h a f) → B h) (hR : ∀ h a f, B (am_rR h a f) → B h) (hN : ∀ h k n, B (am_nw h k n) → B h) (h1 : am_x_ishr (fun _ _ _ h' => B h') (fun _ _ _ _ _ _ _ h' => B h') (fun _ h' => B h') False rk n ts cv cj ls st h) : B h := by
  unfold am_x_ishr at h1
  obtain ⟨x, y, r, e, k⟩ := am_i2_ex h1
  (try unfold am_oe at k)
  (repeat' split at k) <;> first | exact k | exact k.elim | exact hI _ _ _ k | exact hJ _ _ _ k | exact hR _ _ _ k | exact hN _ _ _ k
theorem am_len_ladd (hI : ∀ h a f, B (am_rI h a f) → B h) (hJ : ∀ h a f, B (am_rJ h a f) → B h) (hR : ∀ h a f, B (am_rR h a f) → B h) (hN : ∀ h k n, B (am_nw h k n) → B h) (h1 : am_x_ladd (fun _ _ _ h' => B h') (fun _ _ _ _ _ _ _ h' => B h') (fun _ h' => B h') False rk n ts cv cj ls st h) : B h := by
  unfold am_x_ladd at h1
  obtain ⟨x, y, r, e, k⟩ := am_l2_ex h1
  (try unfold am_oe at k)
  (repeat' split at k) <;> first | exact k | exact k.elim | exact hI _ _ _ k | exact hJ _ _ _ k | exact hR _ _ _ k | exact hN _ _ _ k
theorem am_len_lsub (hI : ∀ h a f, B (am_rI h a f) → B h) (hJ : ∀ h a f, B (am_rJ h a f) → B h) (hR : ∀ h a f, B (am_rR h a f) → B h) (hN : ∀ h k n, B (am_nw h k n) → B h) (h1 : am_x_lsub (fun _ _ _ h' => B h') (fun _ _ _ _ _ _ _ h' => B h') (fun _ h' => B h') False rk n ts cv cj ls st h) : B h := by
  unfold am_x_lsub at h1
  obtain ⟨x, y, r, e, k⟩ := am_l2_ex h1
  (try unfold am_oe at k)
  (repeat' split at k) <;> first | exact k | exact k.elim | exact hI _ _ _ k | exact hJ _ _ _ k | exact hR _ _ _ k | exact hN _ _ _ k
theorem am_len_lmul (hI : ∀ h a f, B (am_rI h a f) → B h) (hJ : ∀ h a f, B (am_rJ h a f) → B h) (hR : ∀ h a f, B (am_rR h a f) → B h) (hN : ∀ h k n, B (am_nw h k n) → B h) (h1 : am_x_lmul (fun _ _ _ h' => B h') (fun _ _ _ _ _ _ _ h' => B h') (fun _ h' => B h') False rk n ts cv cj ls st h) : B h := by
  unfold am_x_lmul at h1
  obtain ⟨x, y, r, e, k⟩ := am_l2_ex h1
  (try unfold am_oe at k)
  (repeat' split at k) <;> first | exact k | exact k.elim | exact hI _ _ _ k | exact hJ _ _ _ k | exact hR _ _ _ k | exact hN _ _ _ k
theorem am_len_land (hI : ∀ h a f, B (am_rI h a f) → B h) (hJ : ∀ h a f, B (am_rJ h a f) → B h) (hR : ∀ h a f, B (am_rR h a f) → B h) (hN : ∀ h k n, B (am_nw h k n) → B h) (h1 : am_x_land (fun _ _ _ h' => B h') (fun _ _ _ _ _ _ _ h' => B h') (fun _ h' => B h') False rk n ts cv cj ls st h) : B h := by
  unfold am_x_land at h1
  obtain ⟨x, y, r, e, k⟩ := am_l2_ex h1
  (try unfold am_oe at k)
  (repeat' split at k) <;> first | exact k | exact k.elim | exact hI _ _ _ k | exact hJ _ _ _ k | exact hR _ _ _ k | exact hN _ _ _ k
theorem am_len_lor (hI : ∀ h a f, B (am_rI h a f) → B h) (hJ : ∀ h a f, B (am_rJ h a f) → B h) (hR : ∀ h a f, B (am_rR h a f) → B h) (hN : ∀ h k n, B (am_nw h k n) → B h) (h1 : am_x_lor (fun _ _ _ h' => B h') (fun _ _ _ _ _ _ _ h' => B h') (fun _ h' => B h') False rk n ts cv cj ls st h) : B h := by
  unfold am_x_lor at h1
  obtain ⟨x, y, r, e, k⟩ := am_l2_ex h1
  (try unfold am_oe at k)
  (repeat' split at k) <;> first | exact k | exact k.elim | exact hI _ _ _ k | exact hJ _ _ _ k | exact hR _ _ _ k | exact hN _ _ _ k
theorem am_len_lxor (hI : ∀ h a f, B (am_rI h a f) → B h) (hJ : ∀ h a f, B (am_rJ h a f) → B h) (hR : ∀ h a f, B (am_rR h a f) → B h) (hN : ∀ h k n, B (am_nw h k n) → B h) (h1 : am_x_lxor (fun _ _ _ h' => B h') (fun _ _ _ _ _ _ _ h' => B h') (fun _ h' => B h') False rk n ts cv cj ls st h) : B h := by
  unfold am_x_lxor at h1
  obtain ⟨x, y, r, e, k⟩ := am_l2_ex h1
  (try unfold am_oe at k)
  (repeat' split at k) <;> first | exact k | exact k.elim | exact hI _ _ _ k | exact hJ _ _ _ k | exact hR _ _ _ k | exact hN _ _ _ k
theorem am_len_ldiv (hI : ∀ h a f, B (am_rI h a f) → B h) (hJ : ∀ h a f, B (am_rJ h a f) → B h) (hR : ∀ h a f, B (am_rR h a f) → B h) (hN : ∀ h k n, B (am_nw h k n) → B h) (h1 : am_x_ldiv (fun _ _ _ h' => B h') (fun _ _ _ _ _ _ _ h' => B h') (fun _ h' => B h') False rk n ts cv cj ls st h) : B h := by
  unfold am_x_ldiv at h1
  obtain ⟨x, y, r, e, k⟩ := am_l2_ex h1
  (try unfold am_oe at k)
  (repeat' split at k) <;> first | exact k | exact k.elim | exact hI _ _ _ k | exact hJ _ _ _ k | exact hR _ _ _ k | exact hN _ _ _ k
theorem am_len_lrem (hI : ∀ h a f, B (am_rI h a f) → B h) (hJ : ∀ h a f, B (am_rJ h a f) → B h) (hR : ∀ h a f, B (am_rR h a f) → B h) (hN : ∀ h k n, B (am_nw h k n) → B h) (h1 : am_x_lrem (fun _ _ _ h' => B h') (fun _ _ _ _ _ _ _ h' => B h') (fun _ h' => B h') False rk n ts cv cj ls st h) : B h := by
  unfold am_x_lrem at h1
  obtain ⟨x, y, r, e, k⟩ := am_l2_ex h1
  (try unfold am_oe at k)
  (repeat' split at k) <;> first | exact k | exact k.elim | exact hI _ _ _ k | exact hJ _ _ _ k | exact hR _ _ _ k | exact hN _ _ _ k
theorem am_len_lneg (hI : ∀ h a f, B (am_rI h a f) → B h) (hJ : ∀ h a f, B (am_rJ h a f) → B h) (hR : ∀ h a f, B (am_rR h a f) → B h) (hN : ∀ h k n, B (am_nw h k n) → B h) (h1 : am_x_lneg (fun _ _ _ h' => B h') (fun _ _ _ _ _ _ _ h' => B h') (fun _ h' => B h') False rk n ts cv cj ls st h) : B h := by
  unfold am_x_lneg at h1
  obtain ⟨x, r, e, k⟩ := am_l1_ex h1
  (try unfold am_oe at k)
  (repeat' split at k) <;> first | exact k | exact k.elim | exact hI _ _ _ k | exact hJ _ _ _ k | exact hR _ _ _ k | exact hN _ _ _ k
theorem am_len_lshl (hI : ∀ h a f, B (am_rI h a f) → B h) (hJ : ∀ h a f, B (am_rJ h a f) → B h) (hR : ∀ h a f, B (am_rR h a f) → B h) (hN : ∀ h k n, B (am_nw h k n) → B h) (h1 : am_x_lshl (fun _ _ _ h' => B h') (fun _ _ _ _ _ _ _ h' => B h') (fun _ h' => B h') False rk n ts cv cj ls st h) : B h := by
  unfold am_x_lshl at h1
  obtain ⟨x, y, r, e, k⟩ := am_li_ex h1
  (try unfold am_oe at k)
  (repeat' split at k) <;> first | exact k | exact k.elim | exact hI _ _ _ k | exact hJ _ _ _ k | exact hR _ _ _ k | exact hN _ _ _ k
theorem am_len_lushr (hI : ∀ h a f, B (am_rI h a f) → B h) (hJ : ∀ h a f, B (am_rJ h a f) → B h) (hR : ∀ h a f, B (am_rR h a f) → B h) (hN : ∀ h k n, B (am_nw h k n) → B h) (h1 : am_x_lushr (fun _ _ _ h' => B h') (fun _ _ _ _ _ _ _ h' => B h') (fun _ h' => B h') False rk n ts cv cj ls st h) : B h := by
  unfold am_x_lushr at h1
  obtain ⟨x, y, r, e, k⟩ := am_li_ex h1
  (try unfold am_oe at k)
  (repeat' split at k) <;> first | exact k | exact k.elim | exact hI _ _ _ k | exact hJ _ _ _ k | exact hR _ _ _ k | exact hN _ _ _ k
theorem am_len_lcmp (hI : ∀ h a f, B (am_rI h a f) → B h) (hJ : ∀ h a f, B (am_rJ h a f) → B h) (hR : ∀ h a f, B (am_rR h a f) → B h) (hN : ∀ h k n, B (am_nw h k n) → B h) (h1 : am_x_lcmp (fun _ _ _ h' => B h') (fun _ _ _ _ _ _ _ h' => B h') (fun _ h' => B h') False rk n ts cv cj ls st h) : B h := by
  unfold am_x_lcmp at h1
  obtain ⟨x, y, r, e, k⟩ := am_l2_ex h1
  (try unfold am_oe at k)
  (repeat' split at k) <;> first | exact k | exact k.elim | exact hI _ _ _ k | exact hJ _ _ _ k | exact hR _ _ _ k | exact hN _ _ _ k
theorem am_len_i2l (hI : ∀ h a f, B (am_rI h a f) → B h) (hJ : ∀ h a f, B (am_rJ h a f) → B h) (hR : ∀ h a f, B (am_rR h a f) → B h) (hN : ∀ h k n, B (am_nw h k n) → B h) (h1 : am_x_i2l (fun _ _ _ h' => B h') (fun _ _ _ _ _ _ _ h' => B h') (fun _ h' => B h') False rk n ts cv cj ls st h) : B h := by
  unfold am_x_i2l at h1
  obtain ⟨x, r, e, k⟩ := am_i1_ex h1
  (try unfold am_oe at k)
  (repeat' split at k) <;> first | exact k | exact k.elim | exact hI _ _ _ k | exact hJ _ _ _ k | exact hR _ _ _ k | exact hN _ _ _ k
theorem am_len_l2i (hI : ∀ h a f, B (am_rI h a f) → B h) (hJ : ∀ h a f, B (am_rJ h a f) → B h) (hR : ∀ h a f, B (am_rR h a f) → B h) (hN : ∀ h k n, B (am_nw h k n) → B h) (h1 : am_x_l2i (fun _ _ _ h' => B h') (fun _ _ _ _ _ _ _ h' => B h') (fun _ h' => B h') False rk n ts cv cj ls st h) : B h := by
  unfold am_x_l2i at h1
  obtain ⟨x, r, e, k⟩ := am_l1_ex h1
  (try unfold am_oe at k)
  (repeat' split at k) <;> first | exact k | exact k.elim | exact hI _ _ _ k | exact hJ _ _ _ k | exact hR _ _ _ k | exact hN _ _ _ k
theorem am_len_i2c (hI : ∀ h a f, B (am_rI h a f) → B h) (hJ : ∀ h a f, B (am_rJ h a f) → B h) (hR : ∀ h a f, B (am_rR h a f) → B h) (hN : ∀ h k n, B (am_nw h k n) → B h) (h1 : am_x_i2c (fun _ _ _ h' => B h') (fun _ _ _ _ _ _ _ h' => B h') (fun _ h' => B h') False rk n ts cv cj ls st h) : B h := by
  unfold am_x_i2c at h1
  obtain ⟨x, r, e, k⟩ := am_i1_ex h1
  (try unfold am_oe at k)
  (repeat' split at k) <;> first | exact k | exact k.elim | exact hI _ _ _ k | exact hJ _ _ _ k | exact hR _ _ _ k | exact hN _ _ _ k
theorem am_len_dup (hI : ∀ h a f, B (am_rI h a f) → B h) (hJ : ∀ h a f, B (am_rJ h a f) → B h) (hR : ∀ h a f, B (am_rR h a f) → B h) (hN : ∀ h k n, B (am_nw h k n) → B h) (h1 : am_x_dup (fun _ _ _ h' => B h') (fun _ _ _ _ _ _ _ h' => B h') (fun _ h' => B h') False rk n ts cv cj ls st h) : B h := by
  unfold am_x_dup at h1
  obtain ⟨v, r, e, hv, k⟩ := am_v1_ex h1
  (try unfold am_oe at k)
  (repeat' split at k) <;> first | exact k | exact k.elim | exact hI _ _ _ k | exact hJ _ _ _ k | exact hR _ _ _ k | exact hN _ _ _ k
theorem am_len_dup2 (hI : ∀ h a f, B (am_rI h a f) → B h) (hJ : ∀ h a f, B (am_rJ h a f) → B h) (hR : ∀ h a f, B (am_rR h a f) → B h) (hN : ∀ h k n, B (am_nw h k n) → B h) (h1 : am_x_dup2 (fun _ _ _ h' => B h') (fun _ _ _ _ _ _ _ h' => B h') (fun _ h' => B h') False rk n ts cv cj ls st h) : B h := by
  unfold am_x_dup2 at h1
  obtain ⟨v, w, r, e, hv, k⟩ := am_v2_ex h1
  (try unfold am_oe at k)
  (repeat' split at k) <;> first | exact k | exact k.elim | exact hI _ _ _ k | exact hJ _ _ _ k | exact hR _ _ _ k | exact hN _ _ _ k
theorem am_len_ifCond_eq (hI : ∀ h a f, B (am_rI h a f) → B h) (hJ : ∀ h a f, B (am_rJ h a f) → B h) (hR : ∀ h a f, B (am_rR h a f) → B h) (hN : ∀ h k n, B (am_nw h k n) → B h) (h1 : am_x_ifCond_eq (fun _ _ _ h' => B h') (fun _ _ _ _ _ _ _ h' => B h') (fun _ h' => B h') False rk n ts cv cj ls st h) : B h := by
  unfold am_x_ifCond_eq at h1
  split at h1 <;> first
    | exact h1.elim
    | (obtain ⟨x, r, e, k⟩ := am_i1_ex h1; (try unfold am_oe at k); (repeat' split at k) <;> first | exact k | exact k.elim | exact hI _ _ _ k | exact hJ _ _ _ k | exact hR _ _ _ k | exact hN _ _ _ k)
theorem am_len_ifCond_ne (hI : ∀ h a f, B (am_rI h a f) → B h) (hJ : ∀ h a f, B (am_rJ h a f) → B h) (hR : ∀ h a f, B (am_rR h a f) → B h) (hN : ∀ h k n, B (am_nw h k n) → B h) (h1 : am_x_ifCond_ne (fun _ _ _ h' => B h') (fun _ _ _ _ _ _ _ h' => B h') (fun _ h' => B h') False rk n ts cv cj ls st h) : B h := by
  unfold am_x_ifCond_ne at h1
  split at h1 <;> first
    | exact h1.elim
    | (obtain ⟨x, r, e, k⟩ := am_i1_ex h1; (try unfold am_oe at k); (repeat' split at k) <;> first | exact k | exact k.elim | exact hI _ _ _ k | exact hJ _ _ _ k | exact hR _ _ _ k | exact hN _ _ _ k)
theorem am_len_ifCond_lt (hI : ∀ h a f, B (am_rI h a f) → B h) (hJ : ∀ h a f, B (am_rJ h a f) → B h) (hR : ∀ h a f, B (am_rR h a f) → B h) (hN : ∀ h k n, B (am_nw h k n) → B h) (h1 : am_x_ifCond_lt (fun _ _ _ h' => B h') (fun _ _ _ _ _ _ _ h' => B h') (fun _ h' => B h') False rk n ts cv cj ls st h) : B h := by
  unfold am_x_ifCond_lt at h1
  split at h1 <;> first
    | exact h1.elim
    | (obtain ⟨x, r, e, k⟩ := am_i1_ex h1; (try unfold am_oe at k); (repeat' split at k) <;> first | exact k | exact k.elim | exact hI _ _ _ k | exact hJ _ _ _ k | exact hR _ _ _ k | exact hN _ _ _ k)
theorem am_len_ifCond_ge (hI : ∀ h a f, B (am_rI h a f) → B h) (hJ : ∀ h a f, B (am_rJ h a f) → B h) (hR : ∀ h a f, B (am_rR h a f) → B h) (hN : ∀ h k n, B (am_nw h k n) → B h) (h1 : am_x_ifCond_ge (fun _ _ _ h' => B h') (fun _ _ _ _ _ _ _ h' => B h') (fun _ h' => B h') False rk n ts cv cj ls st h) : B h := by
  unfold am_x_ifCond_ge at h1
  split at h1 <;> first
    | exact h1.elim
    | (obtain ⟨x, r, e, k⟩ := am_i1_ex h1; (try unfold am_oe at k); (repeat' split at k) <;> first | exact k | exact k.elim | exact hI _ _ _ k | exact hJ _ _ _ k | exact hR _ _ _ k | exact hN _ _ _ k)
theorem am_len_ifCond_gt (hI : ∀ h a f, B (am_rI h a f) → B h) (hJ : ∀ h a f, B (am_rJ h a f) → B h) (hR : ∀ h a f, B (am_rR h a f) → B h) (hN : ∀ h k n, B (am_nw h k n) → B h) (h1 : am_x_ifCond_gt (fun _ _ _ h' => B h') (fun _ _ _ _ _ _ _ h' => B h') (fun _ h' => B h') False rk n ts cv cj ls st h) : B h := by
  unfold am_x_ifCond_gt at h1
  split at h1 <;> first
    | exact h1.elim
    | (obtain ⟨x, r, e, k⟩ := am_i1_ex h1; (try unfold am_oe at k); (repeat' split at k) <;> first | exact k | exact k.elim | exact hI _ _ _ k | exact hJ _ _ _ k | exact hR _ _ _ k | exact hN _ _ _ k)
theorem am_len_ifCond_le (hI : ∀ h a f, B (am_rI h a f) → B h) (hJ : ∀ h a f, B (am_rJ h a f) → B h) (hR : ∀ h a f, B (am_rR h a f) → B h) (hN : ∀ h k n, B (am_nw h k n) → B h) (h1 : am_x_ifCond_le (fun _ _ _ h' => B h') (fun _ _ _ _ _ _ _ h' => B h') (fun _ h' => B h') False rk n ts cv cj ls st h) : B h := by
  unfold am_x_ifCond_le at h1
  split at h1 <;> first
    | exact h1.elim
    | (obtain ⟨x, r, e, k⟩ := am_i1_ex h1; (try unfold am_oe at k); (repeat' split at k) <;> first | exact k | exact k.elim | exact hI _ _ _ k | exact hJ _ _ _ k | exact hR _ _ _ k | exact hN _ _ _ k)
theorem am_len_if_icmp_eq (hI : ∀ h a f, B (am_rI h a f) → B h) (hJ : ∀ h a f, B (am_rJ h a f) → B h) (hR : ∀ h a f, B (am_rR h a f) → B h) (hN : ∀ h k n, B (am_nw h k n) → B h) (h1 : am_x_if_icmp_eq (fun _ _ _ h' => B h') (fun _ _ _ _ _ _ _ h' => B h') (fun _ h' => B h') False rk n ts cv cj ls st h) : B h := by
  unfold am_x_if_icmp_eq at h1
  split at h1 <;> first
    | exact h1.elim
    | (obtain ⟨x, y, r, e, k⟩ := am_i2_ex h1; (try unfold am_oe at k); (repeat' split at k) <;> first | exact k | exact k.elim | exact hI _ _ _ k | exact hJ _ _ _ k | exact hR _ _ _ k | exact hN _ _ _ k)
theorem am_len_if_icmp_ne (hI : ∀ h a f, B (am_rI h a f) → B h) (hJ : ∀ h a f, B (am_rJ h a f) → B h) (hR : ∀ h a f, B (am_rR h a f) → B h) (hN : ∀ h k n, B (am_nw h k n) → B h) (h1 : am_x_if_icmp_ne (fun _ _ _ h' => B h') (fun _ _ _ _ _ _ _ h' => B h') (fun _ h' => B h') False rk n ts cv cj ls st h) : B h := by
  unfold am_x_if_icmp_ne at h1
  split at h1 <;> first
    | exact h1.elim
    | (obtain ⟨x, y, r, e, k⟩ := am_i2_ex h1; (try unfold am_oe at k); (repeat' split at k) <;> first | exact k | exact k.elim | exact hI _ _ _ k | exact hJ _ _ _ k | exact hR _ _ _ k | exact hN _ _ _ k)
theorem am_len_if_icmp_lt (hI : ∀ h a f, B (am_rI h a f) → B h) (hJ : ∀ h a f, B (am_rJ h a f) → B h) (hR : ∀ h a f, B (am_rR h a f) → B h) (hN : ∀ h k n, B (am_nw h k n) → B h) (h1 : am_x_if_icmp_lt (fun _ _ _ h' => B h') (fun _ _ _ _ _ _ _ h' => B h') (fun _ h' => B h') False rk n ts cv cj ls st h) : B h := by
  unfold am_x_if_icmp_lt at h1
  split at h1 <;> first
    | exact h1.elim
    | (obtain ⟨x, y, r, e, k⟩ := am_i2_ex h1; (try unfold am_oe at k); (repeat' split at k) <;> first | exact k | exact k.elim | exact hI _ _ _ k | exact hJ _ _ _ k | exact hR _ _ _ k | exact hN _ _ _ k)
theorem am_len_if_icmp_ge (hI : ∀ h a f, B (am_rI h a f) → B h) (hJ : ∀ h a f, B (am_rJ h a f) → B h) (hR : ∀ h a f, B (am_rR h a f) → B h) (hN : ∀ h k n, B (am_nw h k n) → B h) (h1 : am_x_if_icmp_ge (fun _ _ _ h' => B h') (fun _ _ _ _ _ _ _ h' => B h') (fun _ h' => B h') False rk n ts cv cj ls st h) : B h := by
  unfold am_x_if_icmp_ge at h1
  split at h1 <;> first
    | exact h1.elim
    | (obtain ⟨x, y, r, e, k⟩ := am_i2_ex h1; (try unfold am_oe at k); (repeat' split at k) <;> first | exact k | exact k.elim | exact hI _ _ _ k | exact hJ _ _ _ k | exact hR _ _ _ k | exact hN _ _ _ k)
theorem am_len_if_icmp_gt (hI : ∀ h a f, B (am_rI h a f) → B h) (hJ : ∀ h a f, B (am_rJ h a f) → B h) (hR : ∀ h a f, B (am_rR h a f) → B h) (hN : ∀ h k n, B (am_nw h k n) → B h) (h1 : am_x_if_icmp_gt (fun _ _ _ h' => B h') (fun _ _ _ _ _ _ _ h' => B h') (fun _ h' => B h') False rk n ts cv cj ls st h) : B h := by
  unfold am_x_if_icmp_gt at h1
  split at h1 <;> first
    | exact h1.elim
    | (obtain ⟨x, y, r, e, k⟩ := am_i2_ex h1; (try unfold am_oe at k); (repeat' split at k) <;> first | exact k | exact k.elim | exact hI _ _ _ k | exact hJ _ _ _ k | exact hR _ _ _ k | exact hN _ _ _ k)
theorem am_len_if_icmp_le (hI : ∀ h a f, B (am_rI h a f) → B h) (hJ : ∀ h a f, B (am_rJ h a f) → B h) (hR : ∀ h a f, B (am_rR h a f) → B h) (hN : ∀ h k n, B (am_nw h k n) → B h) (h1 : am_x_if_icmp_le (fun _ _ _ h' => B h') (fun _ _ _ _ _ _ _ h' => B h') (fun _ h' => B h') False rk n ts cv cj ls st h) : B h := by
  unfold am_x_if_icmp_le at h1
  split at h1 <;> first
    | exact h1.elim
    | (obtain ⟨x, y, r, e, k⟩ := am_i2_ex h1; (try unfold am_oe at k); (repeat' split at k) <;> first | exact k | exact k.elim | exact hI _ _ _ k | exact hJ _ _ _ k | exact hR _ _ _ k | exact hN _ _ _ k)
theorem am_len_ifnonnull (hI : ∀ h a f, B (am_rI h a f) → B h) (hJ : ∀ h a f, B (am_rJ h a f) → B h) (hR : ∀ h a f, B (am_rR h a f) → B h) (hN : ∀ h k n, B (am_nw h k n) → B h) (h1 : am_x_ifnonnull (fun _ _ _ h' => B h') (fun _ _ _ _ _ _ _ h' => B h') (fun _ h' => B h') False rk n ts cv cj ls st h) : B h := by
  unfold am_x_ifnonnull at h1
  split at h1 <;> first
    | exact h1.elim
    | (obtain ⟨x, r, e, k⟩ := am_o1_ex h1; (try unfold am_oe at k); (repeat' split at k) <;> first | exact k | exact k.elim | exact hI _ _ _ k | exact hJ _ _ _ k | exact hR _ _ _ k | exact hN _ _ _ k)
theorem am_len_goto (hI : ∀ h a f, B (am_rI h a f) → B h) (hJ : ∀ h a f, B (am_rJ h a f) → B h) (hR : ∀ h a f, B (am_rR h a f) → B h) (hN : ∀ h k n, B (am_nw h k n) → B h) (h1 : am_x_goto (fun _ _ _ h' => B h') (fun _ _ _ _ _ _ _ h' => B h') (fun _ h' => B h') False rk n ts cv cj ls st h) : B h := by
  unfold am_x_goto at h1
  have k := h1
  (repeat' split at k) <;> first | exact k | exact k.elim | exact hI _ _ _ k | exact hJ _ _ _ k | exact hR _ _ _ k | exact hN _ _ _ k
theorem am_len_tableswitch (hI : ∀ h a f, B (am_rI h a f) → B h) (hJ : ∀ h a f, B (am_rJ h a f) → B h) (hR : ∀ h a f, B (am_rR h a f) → B h) (hN : ∀ h k n, B (am_nw h k n) → B h) (h1 : am_x_tableswitch (fun _ _ _ h' => B h') (fun _ _ _ _ _ _ _ h' => B h') (fun _ h' => B h') False rk n ts cv cj ls st h) : B h := by
  unfold am_x_tableswitch at h1
  split at h1
  · obtain ⟨x, r, e, k⟩ := am_i1_ex h1
    rcases am_sw_ex _ _ k with ⟨_, _, _, _, z⟩ | ⟨_, z⟩ <;> exact z
  · exact h1.elim
theorem am_len_getfield (hI : ∀ h a f, B (am_rI h a f) → B h) (hJ : ∀ h a f, B (am_rJ h a f) → B h) (hR : ∀ h a f, B (am_rR h a f) → B h) (hN : ∀ h k n, B (am_nw h k n) → B h) (h1 : am_x_getfield (fun _ _ _ h' => B h') (fun _ _ _ _ _ _ _ h' => B h') (fun _ h' => B h') False rk n ts cv cj ls st h) : B h := by
  unfold am_x_getfield at h1
  split at h1 <;> first
    | exact h1.elim
    | (obtain ⟨a, r, e, k⟩ := am_r1_ex h1; (try unfold am_oe at k); (repeat' split at k) <;> first | exact k | exact k.elim | exact hI _ _ _ k | exact hJ _ _ _ k | exact hR _ _ _ k | exact hN _ _ _ k)
theorem am_len_putfield (hI : ∀ h a f, B (am_rI h a f) → B h) (hJ : ∀ h a f, B (am_rJ h a f) → B h) (hR : ∀ h a f, B (am_rR h a f) → B h) (hN : ∀ h k n, B (am_nw h k n) → B h) (h1 : am_x_putfield (fun _ _ _ h' => B h') (fun _ _ _ _ _ _ _ h' => B h') (fun _ h' => B h') False rk n ts cv cj ls st h) : B h := by
  unfold am_x_putfield at h1
  split at h1
  · obtain ⟨a, x, r, e, k⟩ := am_rr_ex h1
    split at k
    · exact hR _ _ _ k
    · exact k.elim
  · obtain ⟨a, x, r, e, k⟩ := am_ri_ex h1
    split at k
    · split at k
      · exact hI _ _ _ k
      · exact k.elim
    · exact k.elim
  · obtain ⟨a, x, r, e, k⟩ := am_ri_ex h1
    split at k
    · exact hI _ _ _ k
    · exact k.elim
  · exact h1.elim
theorem am_len_new (hI : ∀ h a f, B (am_rI h a f) → B h) (hJ : ∀ h a f, B (am_rJ h a f) → B h) (hR : ∀ h a f, B (am_rR h a f) → B h) (hN : ∀ h k n, B (am_nw h k n) → B h) (h1 : am_x_new (fun _ _ _ h' => B h') (fun _ _ _ _ _ _ _ h' => B h') (fun _ h' => B h') False rk n ts cv cj ls st h) : B h := by
  unfold am_x_new at h1
  have k := h1
  (repeat' split at k) <;> first | exact k | exact k.elim | exact hI _ _ _ k | exact hJ _ _ _ k | exact hR _ _ _ k | exact hN _ _ _ k
theorem am_len_newarray (hI : ∀ h a f, B (am_rI h a f) → B h) (hJ : ∀ h a f, B (am_rJ h a f) → B h) (hR : ∀ h a f, B (am_rR h a f) → B h) (hN : ∀ h k n, B (am_nw h k n) → B h) (h1 : am_x_newarray (fun _ _ _ h' => B h') (fun _ _ _ _ _ _ _ h' => B h') (fun _ h' => B h') False rk n ts cv cj ls st h) : B h := by
  unfold am_x_newarray at h1
  split at h1 <;> first
    | exact h1.elim
    | (obtain ⟨x, r, e, k⟩ := am_i1_ex h1; (try unfold am_oe at k); (repeat' split at k) <;> first | exact k | exact k.elim | exact hI _ _ _ k | exact hJ _ _ _ k | exact hR _ _ _ k | exact hN _ _ _ k)
theorem am_len_anewarray (hI : ∀ h a f, B (am_rI h a f) → B h) (hJ : ∀ h a f, B (am_rJ h a f) → B h) (hR : ∀ h a f, B (am_rR h a f) → B h) (hN : ∀ h k n, B (am_nw h k n) → B h) (h1 : am_x_anewarray (fun _ _ _ h' => B h') (fun _ _ _ _ _ _ _ h' => B h') (fun _ h' => B h') False rk n ts cv cj ls st h) : B h := by
  unfold am_x_anewarray at h1
  obtain ⟨x, r, e, k⟩ := am_i1_ex h1
  (try unfold am_oe at k)
  (repeat' split at k) <;> first | exact k | exact k.elim | exact hI _ _ _ k | exact hJ _ _ _ k | exact hR _ _ _ k | exact hN _ _ _ k
theorem am_len_arraylength (hI : ∀ h a f, B (am_rI h a f) → B h) (hJ : ∀ h a f, B (am_rJ h a f) → B h) (hR : ∀ h a f, B (am_rR h a f) → B h) (hN : ∀ h k n, B (am_nw h k n) → B h) (h1 : am_x_arraylength (fun _ _ _ h' => B h') (fun _ _ _ _ _ _ _ h' => B h') (fun _ h' => B h') False rk n ts cv cj ls st h) : B h := by
  unfold am_x_arraylength at h1
  obtain ⟨a, r, e, k⟩ := am_r1_ex h1
  (try unfold am_oe at k)
  (repeat' split at k) <;> first | exact k | exact k.elim | exact hI _ _ _ k | exact hJ _ _ _ k | exact hR _ _ _ k | exact hN _ _ _ k
theorem am_len_iaload (hI : ∀ h a f, B (am_rI h a f) → B h) (hJ : ∀ h a f, B (am_rJ h a f) → B h) (hR : ∀ h a f, B (am_rR h a f) → B h) (hN : ∀ h k n, B (am_nw h k n) → B h) (h1 : am_x_iaload (fun _ _ _ h' => B h') (fun _ _ _ _ _ _ _ h' => B h') (fun _ h' => B h') False rk n ts cv cj ls st h) : B h := by
  unfold am_x_iaload at h1
  obtain ⟨a, x, r, e, k⟩ := am_ai_ex h1
  (try unfold am_oe at k)
  (repeat' split at k) <;> first | exact k | exact k.elim | exact hI _ _ _ k | exact hJ _ _ _ k | exact hR _ _ _ k | exact hN _ _ _ k
theorem am_len_laload (hI : ∀ h a f, B (am_rI h a f) → B h) (hJ : ∀ h a f, B (am_rJ h a f) → B h) (hR : ∀ h a f, B (am_rR h a f) → B h) (hN : ∀ h k n, B (am_nw h k n) → B h) (h1 : am_x_laload (fun _ _ _ h' => B h') (fun _ _ _ _ _ _ _ h' => B h') (fun _ h' => B h') False rk n ts cv cj ls st h) : B h := by
  unfold am_x_laload at h1
  obtain ⟨a, x, r, e, k⟩ := am_ai_ex h1
  (try unfold am_oe at k)
  (repeat' split at k) <;> first | exact k | exact k.elim | exact hI _ _ _ k | exact hJ _ _ _ k | exact hR _ _ _ k | exact hN _ _ _ k
theorem am_len_caload (hI : ∀ h a f, B (am_rI h a f) → B h) (hJ : ∀ h a f, B (am_rJ h a f) → B h) (hR : ∀ h a f, B (am_rR h a f) → B h) (hN : ∀ h k n, B (am_nw h k n) → B h) (h1 : am_x_caload (fun _ _ _ h' => B h') (fun _ _ _ _ _ _ _ h' => B h') (fun _ h' => B h') False rk n ts cv cj ls st h) : B h := by
  unfold am_x_caload at h1
  obtain ⟨a, x, r, e, k⟩ := am_ai_ex h1
  (try unfold am_oe at k)
  (repeat' split at k) <;> first | exact k | exact k.elim | exact hI _ _ _ k | exact hJ _ _ _ k | exact hR _ _ _ k | exact hN _ _ _ k
theorem am_len_aaload (hI : ∀ h a f, B (am_rI h a f) → B h) (hJ : ∀ h a f, B (am_rJ h a f) → B h) (hR : ∀ h a f, B (am_rR h a f) → B h) (hN : ∀ h k n, B (am_nw h k n) → B h) (h1 : am_x_aaload (fun _ _ _ h' => B h') (fun _ _ _ _ _ _ _ h' => B h') (fun _ h' => B h') False rk n ts cv cj ls st h) : B h := by
  unfold am_x_aaload at h1
  obtain ⟨a, x, r, e, k⟩ := am_ai_ex h1
  (try unfold am_oe at k)
  (repeat' split at k) <;> first | exact k | exact k.elim | exact hI _ _ _ k | exact hJ _ _ _ k | exact hR _ _ _ k | exact hN _ _ _ k
theorem am_len_iastore (hI : ∀ h a f, B (am_rI h a f) → B h) (hJ : ∀ h a f, B (am_rJ h a f) → B h) (hR : ∀ h a f, B (am_rR h a f) → B h) (hN : ∀ h k n, B (am_nw h k n) → B h) (h1 : am_x_iastore (fun _ _ _ h' => B h') (fun _ _ _ _ _ _ _ h' => B h') (fun _ h' => B h') False rk n ts cv cj ls st h) : B h := by
  unfold am_x_iastore at h1
  obtain ⟨a, x, v, r, e, k⟩ := am_aii_ex h1
  (try unfold am_oe at k)
  (repeat' split at k) <;> first | exact k | exact k.elim | exact hI _ _ _ k | exact hJ _ _ _ k | exact hR _ _ _ k | exact hN _ _ _ k
theorem am_len_lastore (hI : ∀ h a f, B (am_rI h a f) → B h) (hJ : ∀ h a f, B (am_rJ h a f) → B h) (hR : ∀ h a f, B (am_rR h a f) → B h) (hN : ∀ h k n, B (am_nw h k n) → B h) (h1 : am_x_lastore (fun _ _ _ h' => B h') (fun _ _ _ _ _ _ _ h' => B h') (fun _ h' => B h') False rk n ts cv cj ls st h) : B h := by
  unfold am_x_lastore at h1
  obtain ⟨a, x, v, r, e, k⟩ := am_ail_ex h1
  (try unfold am_oe at k)
  (repeat' split at k) <;> first | exact k | exact k.elim | exact hI _ _ _ k | exact hJ _ _ _ k | exact hR _ _ _ k | exact hN _ _ _ k
theorem am_len_castore (hI : ∀ h a f, B (am_rI h a f) → B h) (hJ : ∀ h a f, B (am_rJ h a f) → B h) (hR : ∀ h a f, B (am_rR h a f) → B h) (hN : ∀ h k n, B (am_nw h k n) → B h) (h1 : am_x_castore (fun _ _ _ h' => B h') (fun _ _ _ _ _ _ _ h' => B h') (fun _ h' => B h') False rk n ts cv cj ls st h) : B h := by
  unfold am_x_castore at h1
  obtain ⟨a, x, v, r, e, k⟩ := am_aii_ex h1
  (try unfold am_oe at k)
  (repeat' split at k) <;> first | exact k | exact k.elim | exact hI _ _ _ k | exact hJ _ _ _ k | exact hR _ _ _ k | exact hN _ _ _ k
theorem am_len_aastore (hI : ∀ h a f, B (am_rI h a f) → B h) (hJ : ∀ h a f, B (am_rJ h a f) → B h) (hR : ∀ h a f, B (am_rR h a f) → B h) (hN : ∀ h k n, B (am_nw h k n) → B h) (h1 : am_x_aastore (fun _ _ _ h' => B h') (fun _ _ _ _ _ _ _ h' => B h') (fun _ h' => B h') False rk n ts cv cj ls st h) : B h := by
  unfold am_x_aastore at h1
  obtain ⟨a, x, v, r, e, k⟩ := am_air_ex h1
  (try unfold am_oe at k)
  (repeat' split at k) <;> first | exact k | exact k.elim | exact hI _ _ _ k | exact hJ _ _ _ k | exact hR _ _ _ k | exact hN _ _ _ k
theorem am_len_inv (hI : ∀ h a f, B (am_rI h a f) → B h) (hJ : ∀ h a f, B (am_rJ h a f) → B h) (hR : ∀ h a f, B (am_rR h a f) → B h) (hN : ∀ h k n, B (am_nw h k n) → B h) (h1 : am_x_inv (fun _ _ _ h' => B h') (fun _ _ _ _ _ _ _ h' => B h') (fun _ h' => B h') False rk n ts cv cj ls st h) : B h := by
  unfold am_x_inv at h1
  unfold am_inv at h1
  have k := h1
  (repeat' split at k) <;> first | exact k | exact k.elim | exact hI _ _ _ k | exact hJ _ _ _ k | exact hR _ _ _ k | exact hN _ _ _ k
theorem am_len_ireturn (hI : ∀ h a f, B (am_rI h a f) → B h) (hJ : ∀ h a f, B (am_rJ h a f) → B h) (hR : ∀ h a f, B (am_rR h a f) → B h) (hN : ∀ h k n, B (am_nw h k n) → B h) (h1 : am_x_ireturn (fun _ _ _ h' => B h') (fun _ _ _ _ _ _ _ h' => B h') (fun _ h' => B h') False rk n ts cv cj ls st h) : B h := by
  unfold am_x_ireturn at h1
  have k := h1
  (repeat' split at k) <;> first | exact k | exact k.elim | exact hI _ _ _ k | exact hJ _ _ _ k | exact hR _ _ _ k | exact hN _ _ _ k
theorem am_len_lreturn (hI : ∀ h a f, B (am_rI h a f) → B h) (hJ : ∀ h a f, B (am_rJ h a f) → B h) (hR : ∀ h a f, B (am_rR h a f) → B h) (hN : ∀ h k n, B (am_nw h k n) → B h) (h1 : am_x_lreturn (fun _ _ _ h' => B h') (fun _ _ _ _ _ _ _ h' => B h') (fun _ h' => B h') False rk n ts cv cj ls st h) : B h := by
  unfold am_x_lreturn at h1
  have k := h1
  (repeat' split at k) <;> first | exact k | exact k.elim | exact hI _ _ _ k | exact hJ _ _ _ k | exact hR _ _ _ k | exact hN _ _ _ k
theorem am_len_areturn (hI : ∀ h a f, B (am_rI h a f) → B h) (hJ : ∀ h a f, B (am_rJ h a f) → B h) (hR : ∀ h a f, B (am_rR h a f) → B h) (hN : ∀ h k n, B (am_nw h k n) → B h) (h1 : am_x_areturn (fun _ _ _ h' => B h') (fun _ _ _ _ _ _ _ h' => B h') (fun _ h' => B h') False rk n ts cv cj ls st h) : B h := by
  unfold am_x_areturn at h1
  have k := h1
  (repeat' split at k) <;> first | exact k | exact k.elim | exact hI _ _ _ k | exact hJ _ _ _ k | exact hR _ _ _ k | exact hN _ _ _ k
theorem am_len_return_ (hI : ∀ h a f, B (am_rI h a f) → B h) (hJ : ∀ h a f, B (am_rJ h a f) → B h) (hR : ∀ h a f, B (am_rR h a f) → B h) (hN : ∀ h k n, B (am_nw h k n) → B h) (h1 : am_x_return_ (fun _ _ _ h' => B h') (fun _ _ _ _ _ _ _ h' => B h') (fun _ h' => B h') False rk n ts cv cj ls st h) : B h := by
  unfold am_x_return_ at h1
  have k := h1
  (repeat' split at k) <;> first | exact k | exact k.elim | exact hI _ _ _ k | exact hJ _ _ _ k | exact hR _ _ _ k | exact hN _ _ _ k
theorem am_len_no (hI : ∀ h a f, B (am_rI h a f) → B h) (hJ : ∀ h a f, B (am_rJ h a f) → B h) (hR : ∀ h a f, B (am_rR h a f) → B h) (hN : ∀ h k n, B (am_nw h k n) → B h) (h1 : am_x_no (fun _ _ _ h' => B h') (fun _ _ _ _ _ _ _ h' => B h') (fun _ h' => B h') False rk n ts cv cj ls st h) : B h := by
  unfold am_x_no at h1
  have k := h1
  (repeat' split at k) <;> first | exact k | exact k.elim | exact hI _ _ _ k | exact hJ _ _ _ k | exact hR _ _ _ k | exact hN _ _ _ k
set_option maxHeartbeats 4000000 in
theorem am_len (hI : ∀ h a f, B (am_rI h a f) → B h) (hJ : ∀ h a f, B (am_rJ h a f) → B h) (hR : ∀ h a f, B (am_rR h a f) → B h) (hN : ∀ h k n, B (am_nw h k n) → B h) {i : Instr} (h1 : am_exe (fun _ _ _ h' => B h') (fun _ _ _ _ _ _ _ h' => B h') (fun _ h' => B h') False rk i n ts cv cj ls st h) : B h := by
  unfold am_exe at h1
  cases i with
  | iconst k0 =>
    dsimp only [am_sel] at h1
    exact am_len_cI hI hJ hR hN h1
  | bipush k0 =>
    dsimp only [am_sel] at h1
    exact am_len_cI hI hJ hR hN h1
  | sipush k0 =>
    dsimp only [am_sel] at h1
    exact am_len_cI hI hJ hR hN h1
  | ldc k0 =>
    dsimp only [am_sel] at h1
    exact am_len_cI hI hJ hR hN h1
  | ldc2_w k0 =>
    dsimp only [am_sel] at h1
    exact am_len_cJ hI hJ hR hN h1
  | lconst k0 =>
    dsimp only [am_sel] at h1
    exact am_len_cJ hI hJ hR hN h1
  | aconst_null =>
    dsimp only [am_sel] at h1
    exact am_len_aconst_null hI hJ hR hN h1
  | iload k0 =>
    dsimp only [am_sel] at h1
    exact am_len_iload hI hJ hR hN h1
  | iload_n k0 =>
    dsimp only [am_sel] at h1
    exact am_len_iload hI hJ hR hN h1
  | lload k0 =>
    dsimp only [am_sel] at h1
    exact am_len_lload hI hJ hR hN h1
  | lload_n k0 =>
    dsimp only [am_sel] at h1
    exact am_len_lload hI hJ hR hN h1
  | aload k0 =>
    dsimp only [am_sel] at h1
    exact am_len_aload hI hJ hR hN h1
  | aload_n k0 =>
    dsimp only [am_sel] at h1
    exact am_len_aload hI hJ hR hN h1
  | istore k0 =>
    dsimp only [am_sel] at h1
    exact am_len_istore hI hJ hR hN h1
  | istore_n k0 =>
    dsimp only [am_sel] at h1
    exact am_len_istore hI hJ hR hN h1
  | lstore k0 =>
    dsimp only [am_sel] at h1
    exact am_len_lstore hI hJ hR hN h1
  | lstore_n k0 =>
    dsimp only [am_sel] at h1
    exact am_len_lstore hI hJ hR hN h1
  | astore k0 =>
    dsimp only [am_sel] at h1
    exact am_len_astore hI hJ hR hN h1
  | astore_n k0 =>
    dsimp only [am_sel] at h1
    exact am_len_astore hI hJ hR hN h1
  | iinc k0 z =>
    dsimp only [am_sel] at h1
    exact am_len_iinc hI hJ hR hN h1
  | iadd =>
    dsimp only [am_sel] at h1
    exact am_len_iadd hI hJ hR hN h1
  | isub =>
    dsimp only [am_sel] at h1
    exact am_len_isub hI hJ hR hN h1
  | imul =>
    dsimp only [am_sel] at h1
    exact am_len_imul hI hJ hR hN h1
  | iand =>
    dsimp only [am_sel] at h1
    exact am_len_iand hI hJ hR hN h1
  | ior =>
    dsimp only [am_sel] at h1
    exact am_len_ior hI hJ hR hN h1
  | ixor =>
    dsimp only [am_sel] at h1
    exact am_len_ixor hI hJ hR hN h1
  | idiv =>
    dsimp only [am_sel] at h1
    exact am_len_idiv hI hJ hR hN h1
  | irem =>
    dsimp only [am_sel] at h1
    exact am_len_irem hI hJ hR hN h1
  | ishl =>
    dsimp only [am_sel] at h1
    exact am_len_ishl hI hJ hR hN h1
  | ishr =>
    dsimp only [am_sel] at h1
    exact am_len_ishr hI hJ hR hN h1
  | ladd =>
    dsimp only [am_sel] at h1
    exact am_len_ladd hI hJ hR hN h1
  | lsub =>
    dsimp only [am_sel] at h1
    exact am_len_lsub hI hJ hR hN h1
  | lmul =>
    dsimp only [am_sel] at h1
    exact am_len_lmul hI hJ hR hN h1
  | land =>
    dsimp only [am_sel] at h1
    exact am_len_land hI hJ hR hN h1
  | lor =>
    dsimp only [am_sel] at h1
    exact am_len_lor hI hJ hR hN h1
  | lxor =>
    dsimp only [am_sel] at h1
    exact am_len_lxor hI hJ hR hN h1
  | ldiv =>
    dsimp only [am_sel] at h1
    exact am_len_ldiv hI hJ hR hN h1
  | lrem =>
    dsimp only [am_sel] at h1
    exact am_len_lrem hI hJ hR hN h1
  | lneg =>
    dsimp only [am_sel] at h1
    exact am_len_lneg hI hJ hR hN h1
  | lshl =>
    dsimp only [am_sel] at h1
    exact am_len_lshl hI hJ hR hN h1
  | lushr =>
    dsimp only [am_sel] at h1
    exact am_len_lushr hI hJ hR hN h1
  | lcmp =>
    dsimp only [am_sel] at h1
    exact am_len_lcmp hI hJ hR hN h1
  | i2l =>
    dsimp only [am_sel] at h1
    exact am_len_i2l hI hJ hR hN h1
  | l2i =>
    dsimp only [am_sel] at h1
    exact am_len_l2i hI hJ hR hN h1
  | i2c =>
    dsimp only [am_sel] at h1
    exact am_len_i2c hI hJ hR hN h1
  | dup =>
    dsimp only [am_sel] at h1
    exact am_len_dup hI hJ hR hN h1
  | dup2 =>
    dsimp only [am_sel] at h1
    exact am_len_dup2 hI hJ hR hN h1
  | ifnonnull k0 =>
    dsimp only [am_sel] at h1
    exact am_len_ifnonnull hI hJ hR hN h1
  | goto k0 =>
    dsimp only [am_sel] at h1
    exact am_len_goto hI hJ hR hN h1
  | tableswitch d lo hi offs =>
    dsimp only [am_sel] at h1
    exact am_len_tableswitch hI hJ hR hN h1
  | getfield k0 =>
    dsimp only [am_sel] at h1
    exact am_len_getfield hI hJ hR hN h1
  | putfield k0 =>
    dsimp only [am_sel] at h1
    exact am_len_putfield hI hJ hR hN h1
  | new k0 =>
    dsimp only [am_sel] at h1
    exact am_len_new hI hJ hR hN h1
  | newarray k0 =>
    dsimp only [am_sel] at h1
    exact am_len_newarray hI hJ hR hN h1
  | anewarray k0 =>
    dsimp only [am_sel] at h1
    exact am_len_anewarray hI hJ hR hN h1
  | arraylength =>
    dsimp only [am_sel] at h1
    exact am_len_arraylength hI hJ hR hN h1
  | iaload =>
    dsimp only [am_sel] at h1
    exact am_len_iaload hI hJ hR hN h1
  | laload =>
    dsimp only [am_sel] at h1
    exact am_len_laload hI hJ hR hN h1
  | caload =>
    dsimp only [am_sel] at h1
    exact am_len_caload hI hJ hR hN h1
  | aaload =>
    dsimp only [am_sel] at h1
    exact am_len_aaload hI hJ hR hN h1
  | iastore =>
    dsimp only [am_sel] at h1
    exact am_len_iastore hI hJ hR hN h1
  | lastore =>
    dsimp only [am_sel] at h1
    exact am_len_lastore hI hJ hR hN h1
  | castore =>
    dsimp only [am_sel] at h1
    exact am_len_castore hI hJ hR hN h1
  | aastore =>
    dsimp only [am_sel] at h1
    exact am_len_aastore hI hJ hR hN h1
  | invokevirtual k0 =>
    dsimp only [am_sel] at h1
    exact am_len_inv hI hJ hR hN h1
  | invokespecial k0 =>
    dsimp only [am_sel] at h1
    exact am_len_inv hI hJ hR hN h1
  | invokestatic k0 =>
    dsimp only [am_sel] at h1
    exact am_len_inv hI hJ hR hN h1
  | ireturn =>
    dsimp only [am_sel] at h1
    exact am_len_ireturn hI hJ hR hN h1
  | lreturn =>
    dsimp only [am_sel] at h1
    exact am_len_lreturn hI hJ hR hN h1
  | areturn =>
    dsimp only [am_sel] at h1
    exact am_len_areturn hI hJ hR hN h1
  | return_ =>
    dsimp only [am_sel] at h1
    exact am_len_return_ hI hJ hR hN h1
  | ifCond cc off =>
    cases cc <;> dsimp only [am_sel] at h1
    · exact am_len_ifCond_eq hI hJ hR hN h1
    · exact am_len_ifCond_ne hI hJ hR hN h1
    · exact am_len_ifCond_lt hI hJ hR hN h1
    · exact am_len_ifCond_ge hI hJ hR hN h1
    · exact am_len_ifCond_gt hI hJ hR hN h1
    · exact am_len_ifCond_le hI hJ hR hN h1
  | if_icmp cc off =>
    cases cc <;> dsimp only [am_sel] at h1
    · exact am_len_if_icmp_eq hI hJ hR hN h1
    · exact am_len_if_icmp_ne hI hJ hR hN h1
    · exact am_len_if_icmp_lt hI hJ hR hN h1
    · exact am_len_if_icmp_ge hI hJ hR hN h1
    · exact am_len_if_icmp_gt hI hJ hR hN h1
    · exact am_len_if_icmp_le hI hJ hR hN h1
  | _ => exact h1.elim
end len
def am_gr (h h' : AH) : Prop := h.1.length ≤ h'.1.length ∧ sm_sz h ≤ sm_sz h'
theorem am_run_gr {M : Nat → AMe} : ∀ (n mi pc : Nat) (ls st : List Value) (h : AH) (r : Option Value × AH), am_runP M n mi pc ls st h = some r → am_gr h r.2
  | 0, _, _, _, _, _, _, hr => by cases hr
  | n + 1, mi, pc, ls, st, h, r, hr => by
    unfold am_runP at hr
    split at hr
    · cases hr
    · rename_i q hq
      have e := am_exe_nat (fun x : AR => x = some r) (fun pc ls st h => am_runP M n mi pc (am_fg (M mi).2.2.2 pc ls) st h) (fun mi' rk nL as pc ls st h => am_bd rk (am_runP M n mi' 0 (am_entry nL as) [] h) fun vs h => am_runP M n mi pc (am_fg (M mi).2.2.2 pc ls) (vs ++ st) h) (fun v h => some (v, h)) none (M mi).2.2.1 q.2.1 q.2.2.1 q.2.2.2.1 q.2.2.2.2.1 q.2.2.2.2.2 ls st h
      rw [hr] at e
      have h1 := e.mp rfl
      have hz : ((none : AR) = some r) = False := eq_false (fun z => by cases z)
      rw [hz] at h1
      have h2 : am_exe (fun _ _ _ h' => am_gr h' r.2) (fun _ _ _ _ _ _ _ h' => am_gr h' r.2) (fun _ h' => am_gr h' r.2) False (M mi).2.2.1 q.2.1 q.2.2.1 q.2.2.2.1 q.2.2.2.2.1 q.2.2.2.2.2 ls st h := by
        refine am_exe_imp ?_ ?_ ?_ h1
        · exact fun a b c d z => am_run_gr n mi a _ c d r z
        · intro a b c d e' g i j z
          obtain ⟨x, ha, z2, -⟩ := am_bd_some z
          have g1 := am_run_gr (M := M) n a 0 (am_entry c d) [] j x ha
          have g2 := am_run_gr (M := M) n mi e' (am_fg (M mi).2.2.2 e' g) (x.1.toList ++ i) x.2 r z2
          exact ⟨Nat.le_trans g1.1 g2.1, Nat.le_trans g1.2 g2.2⟩
        · intro v h' z
          cases z
          exact ⟨Nat.le_refl _, Nat.le_refl _⟩
      exact am_len (B := fun h' => am_gr h' r.2) (fun h a f z => z) (fun h a f z => z) (fun h a f z => z) (fun h k n z => ⟨by have := z.1; rw [sm_ln_nw] at this; omega, by have := z.2; rw [sm_sz_nw] at this; omega⟩) h2
