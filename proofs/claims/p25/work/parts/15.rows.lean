/-! ===== the rows: an instruction of the small machine, and the kit's row of it ===== -/
section steps
variable {p : Program} {l : Launch} {e : Env} {R : Room} {s : State} {m : MethodId} {args : Array Value} {below : List Frame} {meth : Method} {c : Code} {Q : State → Prop}
variable {P : SP} {Ts : List Cond} {D : va_G} {dA : Nat → ClassId} {base b L : Nat} {xs : Nat → Int32} {μ0 : Nat → Nat} {n0 cE sE : Nat} {F : AH}
variable {CL : Nat → Nat → Nat → List Value → Nat → List Value → List Value → AH → Prop} {RT : Option Value → AH → Prop} {rk : Nat} {ts : List Nat} {cv : Int32} {cj : Int64} {ls st : List Value} {h : AH} {pc : Nat}
theorem sm_x_iadd (hx : p.tables.exec = Jvm.exec) (hb : c.code = P.2.1) (hd : decode P.2.1 pc = .ok (.iadd, 1)) (h1 : am_x_iadd (sm_nx p l e R s m args below meth c Q P D dA base b L xs μ0 n0 cE sE F) CL RT False rk (pc + 1) ts cv cj ls st h) : sm_nx p l e R s m args below meth c Q P D dA base b L xs μ0 n0 cE sE F pc ls st h := by
  unfold am_x_iadd at h1
  obtain ⟨x, y, r, rfl, k⟩ := am_i2_ex h1
  exact ⟨k.1, k.2.1, fun hn μ H locs cells slots A hR hL hw hS hm hc hs => lv_iadd hx hb hd (k.2.2 hn μ H locs cells slots A hR hL (sm_wc sm_wv_i (sm_wt (sm_wt hw))) hS hm hc hs)⟩
theorem sm_x_isub (hx : p.tables.exec = Jvm.exec) (hb : c.code = P.2.1) (hd : decode P.2.1 pc = .ok (.isub, 1)) (h1 : am_x_isub (sm_nx p l e R s m args below meth c Q P D dA base b L xs μ0 n0 cE sE F) CL RT False rk (pc + 1) ts cv cj ls st h) : sm_nx p l e R s m args below meth c Q P D dA base b L xs μ0 n0 cE sE F pc ls st h := by
  unfold am_x_isub at h1
  obtain ⟨x, y, r, rfl, k⟩ := am_i2_ex h1
  exact ⟨k.1, k.2.1, fun hn μ H locs cells slots A hR hL hw hS hm hc hs => lv_isub hx hb hd (k.2.2 hn μ H locs cells slots A hR hL (sm_wc sm_wv_i (sm_wt (sm_wt hw))) hS hm hc hs)⟩
theorem sm_x_imul (hx : p.tables.exec = Jvm.exec) (hb : c.code = P.2.1) (hd : decode P.2.1 pc = .ok (.imul, 1)) (h1 : am_x_imul (sm_nx p l e R s m args below meth c Q P D dA base b L xs μ0 n0 cE sE F) CL RT False rk (pc + 1) ts cv cj ls st h) : sm_nx p l e R s m args below meth c Q P D dA base b L xs μ0 n0 cE sE F pc ls st h := by
  unfold am_x_imul at h1
  obtain ⟨x, y, r, rfl, k⟩ := am_i2_ex h1
  exact ⟨k.1, k.2.1, fun hn μ H locs cells slots A hR hL hw hS hm hc hs => lv_imul hx hb hd (k.2.2 hn μ H locs cells slots A hR hL (sm_wc sm_wv_i (sm_wt (sm_wt hw))) hS hm hc hs)⟩
theorem sm_x_iand (hx : p.tables.exec = Jvm.exec) (hb : c.code = P.2.1) (hd : decode P.2.1 pc = .ok (.iand, 1)) (h1 : am_x_iand (sm_nx p l e R s m args below meth c Q P D dA base b L xs μ0 n0 cE sE F) CL RT False rk (pc + 1) ts cv cj ls st h) : sm_nx p l e R s m args below meth c Q P D dA base b L xs μ0 n0 cE sE F pc ls st h := by
  unfold am_x_iand at h1
  obtain ⟨x, y, r, rfl, k⟩ := am_i2_ex h1
  exact ⟨k.1, k.2.1, fun hn μ H locs cells slots A hR hL hw hS hm hc hs => lv_iand hx hb hd (k.2.2 hn μ H locs cells slots A hR hL (sm_wc sm_wv_i (sm_wt (sm_wt hw))) hS hm hc hs)⟩
theorem sm_x_ior (hx : p.tables.exec = Jvm.exec) (hb : c.code = P.2.1) (hd : decode P.2.1 pc = .ok (.ior, 1)) (h1 : am_x_ior (sm_nx p l e R s m args below meth c Q P D dA base b L xs μ0 n0 cE sE F) CL RT False rk (pc + 1) ts cv cj ls st h) : sm_nx p l e R s m args below meth c Q P D dA base b L xs μ0 n0 cE sE F pc ls st h := by
  unfold am_x_ior at h1
  obtain ⟨x, y, r, rfl, k⟩ := am_i2_ex h1
  exact ⟨k.1, k.2.1, fun hn μ H locs cells slots A hR hL hw hS hm hc hs => lv_ior hx hb hd (k.2.2 hn μ H locs cells slots A hR hL (sm_wc sm_wv_i (sm_wt (sm_wt hw))) hS hm hc hs)⟩
theorem sm_x_ixor (hx : p.tables.exec = Jvm.exec) (hb : c.code = P.2.1) (hd : decode P.2.1 pc = .ok (.ixor, 1)) (h1 : am_x_ixor (sm_nx p l e R s m args below meth c Q P D dA base b L xs μ0 n0 cE sE F) CL RT False rk (pc + 1) ts cv cj ls st h) : sm_nx p l e R s m args below meth c Q P D dA base b L xs μ0 n0 cE sE F pc ls st h := by
  unfold am_x_ixor at h1
  obtain ⟨x, y, r, rfl, k⟩ := am_i2_ex h1
  exact ⟨k.1, k.2.1, fun hn μ H locs cells slots A hR hL hw hS hm hc hs => lv_ixor hx hb hd (k.2.2 hn μ H locs cells slots A hR hL (sm_wc sm_wv_i (sm_wt (sm_wt hw))) hS hm hc hs)⟩
theorem sm_x_ishl (hx : p.tables.exec = Jvm.exec) (hb : c.code = P.2.1) (hd : decode P.2.1 pc = .ok (.ishl, 1)) (h1 : am_x_ishl (sm_nx p l e R s m args below meth c Q P D dA base b L xs μ0 n0 cE sE F) CL RT False rk (pc + 1) ts cv cj ls st h) : sm_nx p l e R s m args below meth c Q P D dA base b L xs μ0 n0 cE sE F pc ls st h := by
  unfold am_x_ishl at h1
  obtain ⟨x, y, r, rfl, k⟩ := am_i2_ex h1
  exact ⟨k.1, k.2.1, fun hn μ H locs cells slots A hR hL hw hS hm hc hs => lv_ishl hx hb hd (k.2.2 hn μ H locs cells slots A hR hL (sm_wc sm_wv_i (sm_wt (sm_wt hw))) hS hm hc hs)⟩
theorem sm_x_ishr (hx : p.tables.exec = Jvm.exec) (hb : c.code = P.2.1) (hd : decode P.2.1 pc = .ok (.ishr, 1)) (h1 : am_x_ishr (sm_nx p l e R s m args below meth c Q P D dA base b L xs μ0 n0 cE sE F) CL RT False rk (pc + 1) ts cv cj ls st h) : sm_nx p l e R s m args below meth c Q P D dA base b L xs μ0 n0 cE sE F pc ls st h := by
  unfold am_x_ishr at h1
  obtain ⟨x, y, r, rfl, k⟩ := am_i2_ex h1
  exact ⟨k.1, k.2.1, fun hn μ H locs cells slots A hR hL hw hS hm hc hs => lv_ishr hx hb hd (k.2.2 hn μ H locs cells slots A hR hL (sm_wc sm_wv_i (sm_wt (sm_wt hw))) hS hm hc hs)⟩
theorem sm_x_idiv (hx : p.tables.exec = Jvm.exec) (hb : c.code = P.2.1) (hd : decode P.2.1 pc = .ok (.idiv, 1)) (h1 : am_x_idiv (sm_nx p l e R s m args below meth c Q P D dA base b L xs μ0 n0 cE sE F) CL RT False rk (pc + 1) ts cv cj ls st h) : sm_nx p l e R s m args below meth c Q P D dA base b L xs μ0 n0 cE sE F pc ls st h := by
  unfold am_x_idiv at h1
  obtain ⟨x, y, r, rfl, k⟩ := am_i2_ex h1
  by_cases hy : y = 0
  · rw [if_pos hy] at k
    exact k.elim
  · rw [if_neg hy] at k
    exact ⟨k.1, k.2.1, fun hn μ H locs cells slots A hR hL hw hS hm hc hs => lv_idiv hx hb hd hy (k.2.2 hn μ H locs cells slots A hR hL (sm_wc sm_wv_i (sm_wt (sm_wt hw))) hS hm hc hs)⟩
theorem sm_x_irem (hx : p.tables.exec = Jvm.exec) (hb : c.code = P.2.1) (hd : decode P.2.1 pc = .ok (.irem, 1)) (h1 : am_x_irem (sm_nx p l e R s m args below meth c Q P D dA base b L xs μ0 n0 cE sE F) CL RT False rk (pc + 1) ts cv cj ls st h) : sm_nx p l e R s m args below meth c Q P D dA base b L xs μ0 n0 cE sE F pc ls st h := by
  unfold am_x_irem at h1
  obtain ⟨x, y, r, rfl, k⟩ := am_i2_ex h1
  by_cases hy : y = 0
  · rw [if_pos hy] at k
    exact k.elim
  · rw [if_neg hy] at k
    exact ⟨k.1, k.2.1, fun hn μ H locs cells slots A hR hL hw hS hm hc hs => lv_irem hx hb hd hy (k.2.2 hn μ H locs cells slots A hR hL (sm_wc sm_wv_i (sm_wt (sm_wt hw))) hS hm hc hs)⟩
theorem sm_x_ladd (hx : p.tables.exec = Jvm.exec) (hb : c.code = P.2.1) (hd : decode P.2.1 pc = .ok (.ladd, 1)) (h1 : am_x_ladd (sm_nx p l e R s m args below meth c Q P D dA base b L xs μ0 n0 cE sE F) CL RT False rk (pc + 1) ts cv cj ls st h) : sm_nx p l e R s m args below meth c Q P D dA base b L xs μ0 n0 cE sE F pc ls st h := by
  unfold am_x_ladd at h1
  obtain ⟨x, y, r, rfl, k⟩ := am_l2_ex h1
  exact ⟨k.1, k.2.1, fun hn μ H locs cells slots A hR hL hw hS hm hc hs => lv_ladd hx hb hd (k.2.2 hn μ H locs cells slots A hR hL (sm_wc sm_wv_l (sm_wt (sm_wt hw))) hS hm hc hs)⟩
theorem sm_x_lsub (hx : p.tables.exec = Jvm.exec) (hb : c.code = P.2.1) (hd : decode P.2.1 pc = .ok (.lsub, 1)) (h1 : am_x_lsub (sm_nx p l e R s m args below meth c Q P D dA base b L xs μ0 n0 cE sE F) CL RT False rk (pc + 1) ts cv cj ls st h) : sm_nx p l e R s m args below meth c Q P D dA base b L xs μ0 n0 cE sE F pc ls st h := by
  unfold am_x_lsub at h1
  obtain ⟨x, y, r, rfl, k⟩ := am_l2_ex h1
  exact ⟨k.1, k.2.1, fun hn μ H locs cells slots A hR hL hw hS hm hc hs => lv_lsub hx hb hd (k.2.2 hn μ H locs cells slots A hR hL (sm_wc sm_wv_l (sm_wt (sm_wt hw))) hS hm hc hs)⟩
theorem sm_x_lmul (hx : p.tables.exec = Jvm.exec) (hb : c.code = P.2.1) (hd : decode P.2.1 pc = .ok (.lmul, 1)) (h1 : am_x_lmul (sm_nx p l e R s m args below meth c Q P D dA base b L xs μ0 n0 cE sE F) CL RT False rk (pc + 1) ts cv cj ls st h) : sm_nx p l e R s m args below meth c Q P D dA base b L xs μ0 n0 cE sE F pc ls st h := by
  unfold am_x_lmul at h1
  obtain ⟨x, y, r, rfl, k⟩ := am_l2_ex h1
  exact ⟨k.1, k.2.1, fun hn μ H locs cells slots A hR hL hw hS hm hc hs => lv_lmul hx hb hd (k.2.2 hn μ H locs cells slots A hR hL (sm_wc sm_wv_l (sm_wt (sm_wt hw))) hS hm hc hs)⟩
theorem sm_x_land (hx : p.tables.exec = Jvm.exec) (hb : c.code = P.2.1) (hd : decode P.2.1 pc = .ok (.land, 1)) (h1 : am_x_land (sm_nx p l e R s m args below meth c Q P D dA base b L xs μ0 n0 cE sE F) CL RT False rk (pc + 1) ts cv cj ls st h) : sm_nx p l e R s m args below meth c Q P D dA base b L xs μ0 n0 cE sE F pc ls st h := by
  unfold am_x_land at h1
  obtain ⟨x, y, r, rfl, k⟩ := am_l2_ex h1
  exact ⟨k.1, k.2.1, fun hn μ H locs cells slots A hR hL hw hS hm hc hs => lv_land hx hb hd (k.2.2 hn μ H locs cells slots A hR hL (sm_wc sm_wv_l (sm_wt (sm_wt hw))) hS hm hc hs)⟩
theorem sm_x_lor (hx : p.tables.exec = Jvm.exec) (hb : c.code = P.2.1) (hd : decode P.2.1 pc = .ok (.lor, 1)) (h1 : am_x_lor (sm_nx p l e R s m args below meth c Q P D dA base b L xs μ0 n0 cE sE F) CL RT False rk (pc + 1) ts cv cj ls st h) : sm_nx p l e R s m args below meth c Q P D dA base b L xs μ0 n0 cE sE F pc ls st h := by
  unfold am_x_lor at h1
  obtain ⟨x, y, r, rfl, k⟩ := am_l2_ex h1
  exact ⟨k.1, k.2.1, fun hn μ H locs cells slots A hR hL hw hS hm hc hs => lv_lor hx hb hd (k.2.2 hn μ H locs cells slots A hR hL (sm_wc sm_wv_l (sm_wt (sm_wt hw))) hS hm hc hs)⟩
theorem sm_x_lxor (hx : p.tables.exec = Jvm.exec) (hb : c.code = P.2.1) (hd : decode P.2.1 pc = .ok (.lxor, 1)) (h1 : am_x_lxor (sm_nx p l e R s m args below meth c Q P D dA base b L xs μ0 n0 cE sE F) CL RT False rk (pc + 1) ts cv cj ls st h) : sm_nx p l e R s m args below meth c Q P D dA base b L xs μ0 n0 cE sE F pc ls st h := by
  unfold am_x_lxor at h1
  obtain ⟨x, y, r, rfl, k⟩ := am_l2_ex h1
  exact ⟨k.1, k.2.1, fun hn μ H locs cells slots A hR hL hw hS hm hc hs => lv_lxor hx hb hd (k.2.2 hn μ H locs cells slots A hR hL (sm_wc sm_wv_l (sm_wt (sm_wt hw))) hS hm hc hs)⟩
theorem sm_x_ldiv (hx : p.tables.exec = Jvm.exec) (hb : c.code = P.2.1) (hd : decode P.2.1 pc = .ok (.ldiv, 1)) (h1 : am_x_ldiv (sm_nx p l e R s m args below meth c Q P D dA base b L xs μ0 n0 cE sE F) CL RT False rk (pc + 1) ts cv cj ls st h) : sm_nx p l e R s m args below meth c Q P D dA base b L xs μ0 n0 cE sE F pc ls st h := by
  unfold am_x_ldiv at h1
  obtain ⟨x, y, r, rfl, k⟩ := am_l2_ex h1
  by_cases hy : y = 0
  · rw [if_pos hy] at k
    exact k.elim
  · rw [if_neg hy] at k
    exact ⟨k.1, k.2.1, fun hn μ H locs cells slots A hR hL hw hS hm hc hs => lv_ldiv hx hb hd hy (k.2.2 hn μ H locs cells slots A hR hL (sm_wc sm_wv_l (sm_wt (sm_wt hw))) hS hm hc hs)⟩
theorem sm_x_lrem (hx : p.tables.exec = Jvm.exec) (hb : c.code = P.2.1) (hd : decode P.2.1 pc = .ok (.lrem, 1)) (h1 : am_x_lrem (sm_nx p l e R s m args below meth c Q P D dA base b L xs μ0 n0 cE sE F) CL RT False rk (pc + 1) ts cv cj ls st h) : sm_nx p l e R s m args below meth c Q P D dA base b L xs μ0 n0 cE sE F pc ls st h := by
  unfold am_x_lrem at h1
  obtain ⟨x, y, r, rfl, k⟩ := am_l2_ex h1
  by_cases hy : y = 0
  · rw [if_pos hy] at k
    exact k.elim
  · rw [if_neg hy] at k
    exact ⟨k.1, k.2.1, fun hn μ H locs cells slots A hR hL hw hS hm hc hs => lv_lrem hx hb hd hy (k.2.2 hn μ H locs cells slots A hR hL (sm_wc sm_wv_l (sm_wt (sm_wt hw))) hS hm hc hs)⟩
theorem sm_x_lneg (hx : p.tables.exec = Jvm.exec) (hb : c.code = P.2.1) (hd : decode P.2.1 pc = .ok (.lneg, 1)) (h1 : am_x_lneg (sm_nx p l e R s m args below meth c Q P D dA base b L xs μ0 n0 cE sE F) CL RT False rk (pc + 1) ts cv cj ls st h) : sm_nx p l e R s m args below meth c Q P D dA base b L xs μ0 n0 cE sE F pc ls st h := by
  unfold am_x_lneg at h1
  obtain ⟨x, r, rfl, k⟩ := am_l1_ex h1
  exact ⟨k.1, k.2.1, fun hn μ H locs cells slots A hR hL hw hS hm hc hs => lv_lneg hx hb hd (k.2.2 hn μ H locs cells slots A hR hL (sm_wc sm_wv_l (sm_wt hw)) hS hm hc hs)⟩
theorem sm_x_lshl (hx : p.tables.exec = Jvm.exec) (hb : c.code = P.2.1) (hd : decode P.2.1 pc = .ok (.lshl, 1)) (h1 : am_x_lshl (sm_nx p l e R s m args below meth c Q P D dA base b L xs μ0 n0 cE sE F) CL RT False rk (pc + 1) ts cv cj ls st h) : sm_nx p l e R s m args below meth c Q P D dA base b L xs μ0 n0 cE sE F pc ls st h := by
  unfold am_x_lshl at h1
  obtain ⟨x, y, r, rfl, k⟩ := am_li_ex h1
  exact ⟨k.1, k.2.1, fun hn μ H locs cells slots A hR hL hw hS hm hc hs => lv_lshl hx hb hd rfl (k.2.2 hn μ H locs cells slots A hR hL (sm_wc sm_wv_l (sm_wt (sm_wt hw))) hS hm hc hs)⟩
theorem sm_x_lushr (hx : p.tables.exec = Jvm.exec) (hb : c.code = P.2.1) (hd : decode P.2.1 pc = .ok (.lushr, 1)) (h1 : am_x_lushr (sm_nx p l e R s m args below meth c Q P D dA base b L xs μ0 n0 cE sE F) CL RT False rk (pc + 1) ts cv cj ls st h) : sm_nx p l e R s m args below meth c Q P D dA base b L xs μ0 n0 cE sE F pc ls st h := by
  unfold am_x_lushr at h1
  obtain ⟨x, y, r, rfl, k⟩ := am_li_ex h1
  exact ⟨k.1, k.2.1, fun hn μ H locs cells slots A hR hL hw hS hm hc hs => lv_lushr hx hb hd rfl (k.2.2 hn μ H locs cells slots A hR hL (sm_wc sm_wv_l (sm_wt (sm_wt hw))) hS hm hc hs)⟩
theorem sm_x_lcmp (hx : p.tables.exec = Jvm.exec) (hb : c.code = P.2.1) (hd : decode P.2.1 pc = .ok (.lcmp, 1)) (h1 : am_x_lcmp (sm_nx p l e R s m args below meth c Q P D dA base b L xs μ0 n0 cE sE F) CL RT False rk (pc + 1) ts cv cj ls st h) : sm_nx p l e R s m args below meth c Q P D dA base b L xs μ0 n0 cE sE F pc ls st h := by
  unfold am_x_lcmp at h1
  obtain ⟨x, y, r, rfl, k⟩ := am_l2_ex h1
  exact ⟨k.1, k.2.1, fun hn μ H locs cells slots A hR hL hw hS hm hc hs => W.lcmp hx hb hd (k.2.2 hn μ H locs cells slots A hR hL (sm_wc sm_wv_i (sm_wt (sm_wt hw))) hS hm hc hs)⟩
theorem sm_x_i2l (hx : p.tables.exec = Jvm.exec) (hb : c.code = P.2.1) (hd : decode P.2.1 pc = .ok (.i2l, 1)) (h1 : am_x_i2l (sm_nx p l e R s m args below meth c Q P D dA base b L xs μ0 n0 cE sE F) CL RT False rk (pc + 1) ts cv cj ls st h) : sm_nx p l e R s m args below meth c Q P D dA base b L xs μ0 n0 cE sE F pc ls st h := by
  unfold am_x_i2l at h1
  obtain ⟨x, r, rfl, k⟩ := am_i1_ex h1
  exact ⟨k.1, k.2.1, fun hn μ H locs cells slots A hR hL hw hS hm hc hs => lv_i2l hx hb hd rfl (k.2.2 hn μ H locs cells slots A hR hL (sm_wc sm_wv_l (sm_wt hw)) hS hm hc hs)⟩
theorem sm_x_l2i (hx : p.tables.exec = Jvm.exec) (hb : c.code = P.2.1) (hd : decode P.2.1 pc = .ok (.l2i, 1)) (h1 : am_x_l2i (sm_nx p l e R s m args below meth c Q P D dA base b L xs μ0 n0 cE sE F) CL RT False rk (pc + 1) ts cv cj ls st h) : sm_nx p l e R s m args below meth c Q P D dA base b L xs μ0 n0 cE sE F pc ls st h := by
  unfold am_x_l2i at h1
  obtain ⟨x, r, rfl, k⟩ := am_l1_ex h1
  exact ⟨k.1, k.2.1, fun hn μ H locs cells slots A hR hL hw hS hm hc hs => lv_l2i hx hb hd rfl (k.2.2 hn μ H locs cells slots A hR hL (sm_wc sm_wv_i (sm_wt hw)) hS hm hc hs)⟩
theorem sm_x_i2c (hx : p.tables.exec = Jvm.exec) (hb : c.code = P.2.1) (hd : decode P.2.1 pc = .ok (.i2c, 1)) (h1 : am_x_i2c (sm_nx p l e R s m args below meth c Q P D dA base b L xs μ0 n0 cE sE F) CL RT False rk (pc + 1) ts cv cj ls st h) : sm_nx p l e R s m args below meth c Q P D dA base b L xs μ0 n0 cE sE F pc ls st h := by
  unfold am_x_i2c at h1
  obtain ⟨x, r, rfl, k⟩ := am_i1_ex h1
  exact ⟨k.1, k.2.1, fun hn μ H locs cells slots A hR hL hw hS hm hc hs => lv_i2c hx hb hd rfl (k.2.2 hn μ H locs cells slots A hR hL (sm_wc sm_wv_i (sm_wt hw)) hS hm hc hs)⟩
theorem sm_x_dup (hx : p.tables.exec = Jvm.exec) (hb : c.code = P.2.1) (hd : decode P.2.1 pc = .ok (.dup, 1)) (h1 : am_x_dup (sm_nx p l e R s m args below meth c Q P D dA base b L xs μ0 n0 cE sE F) CL RT False rk (pc + 1) ts cv cj ls st h) : sm_nx p l e R s m args below meth c Q P D dA base b L xs μ0 n0 cE sE F pc ls st h := by
  unfold am_x_dup at h1
  obtain ⟨v, r, rfl, hv, k⟩ := am_v1_ex h1
  exact ⟨k.1, k.2.1, fun hn μ H locs cells slots A hR hL hw hS hm hc hs => lv_dup hx hb hd ((sm_cat μ v).trans hv) (k.2.2 hn μ H locs cells slots A hR hL (sm_wc (hw _ List.mem_cons_self) hw) hS hm hc hs)⟩
theorem sm_x_dup2 (hx : p.tables.exec = Jvm.exec) (hb : c.code = P.2.1) (hd : decode P.2.1 pc = .ok (.dup2, 1)) (h1 : am_x_dup2 (sm_nx p l e R s m args below meth c Q P D dA base b L xs μ0 n0 cE sE F) CL RT False rk (pc + 1) ts cv cj ls st h) : sm_nx p l e R s m args below meth c Q P D dA base b L xs μ0 n0 cE sE F pc ls st h := by
  unfold am_x_dup2 at h1
  obtain ⟨v, w, r, rfl, ⟨hv, hw2⟩, k⟩ := am_v2_ex h1
  exact ⟨k.1, k.2.1, fun hn μ H locs cells slots A hR hL hw hS hm hc hs => lv_dup2_11 hx hb hd ((sm_cat μ v).trans hv) ((sm_cat μ w).trans hw2) (k.2.2 hn μ H locs cells slots A hR hL (sm_wc (hw _ List.mem_cons_self) (sm_wc (hw _ (List.mem_cons_of_mem _ List.mem_cons_self)) hw)) hS hm hc hs)⟩
theorem sm_x_iconst (hx : p.tables.exec = Jvm.exec) (hb : c.code = P.2.1) {q : Int} (hv : Int32.ofInt q = cv) (hd : decode P.2.1 pc = .ok (.iconst q, 1)) (h1 : am_x_cI (sm_nx p l e R s m args below meth c Q P D dA base b L xs μ0 n0 cE sE F) CL RT False rk (pc + 1) ts cv cj ls st h) : sm_nx p l e R s m args below meth c Q P D dA base b L xs μ0 n0 cE sE F pc ls st h := by
  unfold am_x_cI at h1
  exact ⟨h1.1, h1.2.1, fun hn μ H locs cells slots A hR hL hw hS hm hc hs => lv_iconst hx hb hd hv (h1.2.2 hn μ H locs cells slots A hR hL (sm_wc sm_wv_i hw) hS hm hc hs)⟩
theorem sm_x_bipush (hx : p.tables.exec = Jvm.exec) (hb : c.code = P.2.1) {q : Int} (hv : (Int8.ofInt q).toInt32 = cv) (hd : decode P.2.1 pc = .ok (.bipush q, 2)) (h1 : am_x_cI (sm_nx p l e R s m args below meth c Q P D dA base b L xs μ0 n0 cE sE F) CL RT False rk (pc + 2) ts cv cj ls st h) : sm_nx p l e R s m args below meth c Q P D dA base b L xs μ0 n0 cE sE F pc ls st h := by
  unfold am_x_cI at h1
  exact ⟨h1.1, h1.2.1, fun hn μ H locs cells slots A hR hL hw hS hm hc hs => lv_bipush hx hb hd hv (h1.2.2 hn μ H locs cells slots A hR hL (sm_wc sm_wv_i hw) hS hm hc hs)⟩
theorem sm_x_sipush (hx : p.tables.exec = Jvm.exec) (hb : c.code = P.2.1) {q : Int} (hv : (Int16.ofInt q).toInt32 = cv) (hd : decode P.2.1 pc = .ok (.sipush q, 3)) (h1 : am_x_cI (sm_nx p l e R s m args below meth c Q P D dA base b L xs μ0 n0 cE sE F) CL RT False rk (pc + 3) ts cv cj ls st h) : sm_nx p l e R s m args below meth c Q P D dA base b L xs μ0 n0 cE sE F pc ls st h := by
  unfold am_x_cI at h1
  exact ⟨h1.1, h1.2.1, fun hn μ H locs cells slots A hR hL hw hS hm hc hs => lv_sipush hx hb hd hv (h1.2.2 hn μ H locs cells slots A hR hL (sm_wc sm_wv_i hw) hS hm hc hs)⟩
theorem sm_x_ldc (hx : p.tables.exec = Jvm.exec) (hb : c.code = P.2.1) {q : Nat} (hown : s.vm.findClass P.1.cls = some m.cls) (hv : (Jvm.Cond.constant P.1.cls q cv).before args s = true) (hd : decode P.2.1 pc = .ok (.ldc q, 2)) (h1 : am_x_cI (sm_nx p l e R s m args below meth c Q P D dA base b L xs μ0 n0 cE sE F) CL RT False rk (pc + 2) ts cv cj ls st h) : sm_nx p l e R s m args below meth c Q P D dA base b L xs μ0 n0 cE sE F pc ls st h := by
  unfold am_x_cI at h1
  exact ⟨h1.1, h1.2.1, fun hn μ H locs cells slots A hR hL hw hS hm hc hs => lv_ldc hx hb hown hv hd (h1.2.2 hn μ H locs cells slots A hR hL (sm_wc sm_wv_i hw) hS hm hc hs)⟩
theorem sm_x_ldc2 (hx : p.tables.exec = Jvm.exec) (hb : c.code = P.2.1) {q : Nat} (hown : s.vm.findClass P.1.cls = some m.cls) (hv : (Jvm.Cond.constantLong P.1.cls q cj).before args s = true) (hd : decode P.2.1 pc = .ok (.ldc2_w q, 3)) (h1 : am_x_cJ (sm_nx p l e R s m args below meth c Q P D dA base b L xs μ0 n0 cE sE F) CL RT False rk (pc + 3) ts cv cj ls st h) : sm_nx p l e R s m args below meth c Q P D dA base b L xs μ0 n0 cE sE F pc ls st h := by
  unfold am_x_cJ at h1
  exact ⟨h1.1, h1.2.1, fun hn μ H locs cells slots A hR hL hw hS hm hc hs => lv_ldc2 hx hb hown hv hd (h1.2.2 hn μ H locs cells slots A hR hL (sm_wc sm_wv_l hw) hS hm hc hs)⟩
theorem sm_x_lconst (hx : p.tables.exec = Jvm.exec) (hb : c.code = P.2.1) {q : Fin 2} (hv : Int64.ofNat (q : Nat) = cj) (hd : decode P.2.1 pc = .ok (.lconst q, 1)) (h1 : am_x_cJ (sm_nx p l e R s m args below meth c Q P D dA base b L xs μ0 n0 cE sE F) CL RT False rk (pc + 1) ts cv cj ls st h) : sm_nx p l e R s m args below meth c Q P D dA base b L xs μ0 n0 cE sE F pc ls st h := by
  unfold am_x_cJ at h1
  exact ⟨h1.1, h1.2.1, fun hn μ H locs cells slots A hR hL hw hS hm hc hs => lv_lconst hx hb hd hv (h1.2.2 hn μ H locs cells slots A hR hL (sm_wc sm_wv_l hw) hS hm hc hs)⟩
theorem sm_x_iload (hx : p.tables.exec = Jvm.exec) (hb : c.code = P.2.1) {q : Nat} (hd : decode P.2.1 pc = .ok (.iload q, 2)) (h1 : am_x_iload q (sm_nx p l e R s m args below meth c Q P D dA base b L xs μ0 n0 cE sE F) CL RT False rk (pc + 2) ts cv cj ls st h) : sm_nx p l e R s m args below meth c Q P D dA base b L xs μ0 n0 cE sE F pc ls st h := by
  unfold am_x_iload at h1
  obtain ⟨x, hq, k⟩ := am_ldI_ex h1
  exact ⟨k.1, k.2.1, fun hn μ H locs cells slots A hR hL hw hS hm hc hs => lv_iload hx hb hd (hL.2.2.2.1 q (.int x) hq (by intro z; cases z)) (k.2.2 hn μ H locs cells slots A hR hL (sm_wc sm_wv_i hw) hS hm hc hs)⟩
theorem sm_x_iload_n (hx : p.tables.exec = Jvm.exec) (hb : c.code = P.2.1) {q : Fin 4} (hd : decode P.2.1 pc = .ok (.iload_n q, 1)) (h1 : am_x_iload q (sm_nx p l e R s m args below meth c Q P D dA base b L xs μ0 n0 cE sE F) CL RT False rk (pc + 1) ts cv cj ls st h) : sm_nx p l e R s m args below meth c Q P D dA base b L xs μ0 n0 cE sE F pc ls st h := by
  unfold am_x_iload at h1
  obtain ⟨x, hq, k⟩ := am_ldI_ex h1
  exact ⟨k.1, k.2.1, fun hn μ H locs cells slots A hR hL hw hS hm hc hs => lv_iload_n hx hb hd rfl (hL.2.2.2.1 q (.int x) hq (by intro z; cases z)) (k.2.2 hn μ H locs cells slots A hR hL (sm_wc sm_wv_i hw) hS hm hc hs)⟩
theorem sm_x_lload (hx : p.tables.exec = Jvm.exec) (hb : c.code = P.2.1) {q : Nat} (hd : decode P.2.1 pc = .ok (.lload q, 2)) (h1 : am_x_lload q (sm_nx p l e R s m args below meth c Q P D dA base b L xs μ0 n0 cE sE F) CL RT False rk (pc + 2) ts cv cj ls st h) : sm_nx p l e R s m args below meth c Q P D dA base b L xs μ0 n0 cE sE F pc ls st h := by
  unfold am_x_lload at h1
  obtain ⟨x, hq, k⟩ := am_ldJ_ex h1
  exact ⟨k.1, k.2.1, fun hn μ H locs cells slots A hR hL hw hS hm hc hs => lv_lload hx hb hd (hL.2.2.2.1 q (.long x) hq (by intro z; cases z)) (k.2.2 hn μ H locs cells slots A hR hL (sm_wc sm_wv_l hw) hS hm hc hs)⟩
theorem sm_x_lload_n (hx : p.tables.exec = Jvm.exec) (hb : c.code = P.2.1) {q : Fin 4} (hd : decode P.2.1 pc = .ok (.lload_n q, 1)) (h1 : am_x_lload q (sm_nx p l e R s m args below meth c Q P D dA base b L xs μ0 n0 cE sE F) CL RT False rk (pc + 1) ts cv cj ls st h) : sm_nx p l e R s m args below meth c Q P D dA base b L xs μ0 n0 cE sE F pc ls st h := by
  unfold am_x_lload at h1
  obtain ⟨x, hq, k⟩ := am_ldJ_ex h1
  exact ⟨k.1, k.2.1, fun hn μ H locs cells slots A hR hL hw hS hm hc hs => lv_lload_n hx hb hd rfl (hL.2.2.2.1 q (.long x) hq (by intro z; cases z)) (k.2.2 hn μ H locs cells slots A hR hL (sm_wc sm_wv_l hw) hS hm hc hs)⟩
theorem sm_x_aload (hx : p.tables.exec = Jvm.exec) (hb : c.code = P.2.1) {q : Nat} (hd : decode P.2.1 pc = .ok (.aload q, 2)) (h1 : am_x_aload q (sm_nx p l e R s m args below meth c Q P D dA base b L xs μ0 n0 cE sE F) CL RT False rk (pc + 2) ts cv cj ls st h) : sm_nx p l e R s m args below meth c Q P D dA base b L xs μ0 n0 cE sE F pc ls st h := by
  unfold am_x_aload at h1
  obtain ⟨x, hq, k⟩ := am_ldA_ex h1
  cases x with
  | none => exact ⟨k.1, k.2.1, fun hn μ H locs cells slots A hR hL hw hS hm hc hs => lv_aloadN hx hb hd (hL.2.2.2.1 q .null hq (by intro z; cases z)) (k.2.2 hn μ H locs cells slots A hR hL (sm_wc sm_wv_n hw) hS hm hc hs)⟩
  | some a => exact ⟨k.1, k.2.1, fun hn μ H locs cells slots A hR hL hw hS hm hc hs => lv_aload hx hb hd (hL.2.2.2.1 q (.ref a) hq (by intro z; cases z)) (k.2.2 hn μ H locs cells slots A hR hL (sm_wc (hL.2.2.2.2 _ (List.mem_of_getElem? hq)) hw) hS hm hc hs)⟩
theorem sm_x_aload_n (hx : p.tables.exec = Jvm.exec) (hb : c.code = P.2.1) {q : Fin 4} (hd : decode P.2.1 pc = .ok (.aload_n q, 1)) (h1 : am_x_aload q (sm_nx p l e R s m args below meth c Q P D dA base b L xs μ0 n0 cE sE F) CL RT False rk (pc + 1) ts cv cj ls st h) : sm_nx p l e R s m args below meth c Q P D dA base b L xs μ0 n0 cE sE F pc ls st h := by
  unfold am_x_aload at h1
  obtain ⟨x, hq, k⟩ := am_ldA_ex h1
  cases x with
  | none => exact ⟨k.1, k.2.1, fun hn μ H locs cells slots A hR hL hw hS hm hc hs => lv_aload_nN hx hb hd rfl (hL.2.2.2.1 q .null hq (by intro z; cases z)) (k.2.2 hn μ H locs cells slots A hR hL (sm_wc sm_wv_n hw) hS hm hc hs)⟩
  | some a => exact ⟨k.1, k.2.1, fun hn μ H locs cells slots A hR hL hw hS hm hc hs => lv_aload_n hx hb hd rfl (hL.2.2.2.1 q (.ref a) hq (by intro z; cases z)) (k.2.2 hn μ H locs cells slots A hR hL (sm_wc (hL.2.2.2.2 _ (List.mem_of_getElem? hq)) hw) hS hm hc hs)⟩
theorem sm_x_istore (hx : p.tables.exec = Jvm.exec) (hb : c.code = P.2.1) {q : Nat} (hd : decode P.2.1 pc = .ok (.istore q, 2)) (h1 : am_x_istore q (sm_nx p l e R s m args below meth c Q P D dA base b L xs μ0 n0 cE sE F) CL RT False rk (pc + 2) ts cv cj ls st h) : sm_nx p l e R s m args below meth c Q P D dA base b L xs μ0 n0 cE sE F pc ls st h := by
  unfold am_x_istore at h1
  obtain ⟨x, r, rfl, k⟩ := am_i1_ex h1
  by_cases hk : (q : Nat) < ls.length
  · rw [if_pos hk] at k
    exact ⟨k.1, k.2.1, fun hn μ H locs cells slots A hR hL hw hS hm hc hs => lv_istore hx hb hd hL.has (by rw [← hL.2.2.1]; exact hk) rfl (fun A' h' => (k.2.2 hn μ H locs cells slots A' hR (hL.set1 (v := .int x) hk sm_wv_i h') (sm_wt hw) hS hm hc hs))⟩
  · rw [if_neg hk] at k
    exact k.elim
theorem sm_x_istore_n (hx : p.tables.exec = Jvm.exec) (hb : c.code = P.2.1) {q : Fin 4} (hd : decode P.2.1 pc = .ok (.istore_n q, 1)) (h1 : am_x_istore q (sm_nx p l e R s m args below meth c Q P D dA base b L xs μ0 n0 cE sE F) CL RT False rk (pc + 1) ts cv cj ls st h) : sm_nx p l e R s m args below meth c Q P D dA base b L xs μ0 n0 cE sE F pc ls st h := by
  unfold am_x_istore at h1
  obtain ⟨x, r, rfl, k⟩ := am_i1_ex h1
  by_cases hk : (q : Nat) < ls.length
  · rw [if_pos hk] at k
    exact ⟨k.1, k.2.1, fun hn μ H locs cells slots A hR hL hw hS hm hc hs => lv_istore_n hx hb hd rfl hL.has (by rw [← hL.2.2.1]; exact hk) rfl (fun A' h' => (k.2.2 hn μ H locs cells slots A' hR (hL.set1 (v := .int x) hk sm_wv_i h') (sm_wt hw) hS hm hc hs))⟩
  · rw [if_neg hk] at k
    exact k.elim
theorem sm_x_lstore (hx : p.tables.exec = Jvm.exec) (hb : c.code = P.2.1) {q : Nat} (hd : decode P.2.1 pc = .ok (.lstore q, 2)) (h1 : am_x_lstore q (sm_nx p l e R s m args below meth c Q P D dA base b L xs μ0 n0 cE sE F) CL RT False rk (pc + 2) ts cv cj ls st h) : sm_nx p l e R s m args below meth c Q P D dA base b L xs μ0 n0 cE sE F pc ls st h := by
  unfold am_x_lstore at h1
  obtain ⟨x, r, rfl, k⟩ := am_l1_ex h1
  by_cases hk : (q : Nat) + 1 < ls.length
  · rw [if_pos hk] at k
    exact ⟨k.1, k.2.1, fun hn μ H locs cells slots A hR hL hw hS hm hc hs => lv_lstore hx hb hd hL.has (by rw [← hL.2.2.1]; exact hk) rfl (fun A' h' => (k.2.2 hn μ H locs cells slots A' hR (hL.set2 hk h') (sm_wt hw) hS hm hc hs))⟩
  · rw [if_neg hk] at k
    exact k.elim
theorem sm_x_lstore_n (hx : p.tables.exec = Jvm.exec) (hb : c.code = P.2.1) {q : Fin 4} (hd : decode P.2.1 pc = .ok (.lstore_n q, 1)) (h1 : am_x_lstore q (sm_nx p l e R s m args below meth c Q P D dA base b L xs μ0 n0 cE sE F) CL RT False rk (pc + 1) ts cv cj ls st h) : sm_nx p l e R s m args below meth c Q P D dA base b L xs μ0 n0 cE sE F pc ls st h := by
  unfold am_x_lstore at h1
  obtain ⟨x, r, rfl, k⟩ := am_l1_ex h1
  by_cases hk : (q : Nat) + 1 < ls.length
  · rw [if_pos hk] at k
    exact ⟨k.1, k.2.1, fun hn μ H locs cells slots A hR hL hw hS hm hc hs => lv_lstore_n hx hb hd rfl hL.has (by rw [← hL.2.2.1]; exact hk) rfl (fun A' h' => (k.2.2 hn μ H locs cells slots A' hR (hL.set2 hk h') (sm_wt hw) hS hm hc hs))⟩
  · rw [if_neg hk] at k
    exact k.elim
theorem sm_x_astore (hx : p.tables.exec = Jvm.exec) (hb : c.code = P.2.1) {q : Nat} (hd : decode P.2.1 pc = .ok (.astore q, 2)) (h1 : am_x_astore q (sm_nx p l e R s m args below meth c Q P D dA base b L xs μ0 n0 cE sE F) CL RT False rk (pc + 2) ts cv cj ls st h) : sm_nx p l e R s m args below meth c Q P D dA base b L xs μ0 n0 cE sE F pc ls st h := by
  unfold am_x_astore at h1
  obtain ⟨x, r, rfl, k⟩ := am_o1_ex h1
  by_cases hk : (q : Nat) < ls.length
  · rw [if_pos hk] at k
    cases x with
    | none => exact ⟨k.1, k.2.1, fun hn μ H locs cells slots A hR hL hw hS hm hc hs => lv_astoreN hx hb hd hL.has (by rw [← hL.2.2.1]; exact hk) rfl (fun A' h' => (k.2.2 hn μ H locs cells slots A' hR (hL.set1 (v := .null) hk sm_wv_n h') (sm_wt hw) hS hm hc hs))⟩
    | some a => exact ⟨k.1, k.2.1, fun hn μ H locs cells slots A hR hL hw hS hm hc hs => lv_astore hx hb hd hL.has (by rw [← hL.2.2.1]; exact hk) rfl (fun A' h' => (k.2.2 hn μ H locs cells slots A' hR (hL.set1 (v := .ref a) hk (hw _ List.mem_cons_self) h') (sm_wt hw) hS hm hc hs))⟩
  · rw [if_neg hk] at k
    exact k.elim
theorem sm_x_astore_n (hx : p.tables.exec = Jvm.exec) (hb : c.code = P.2.1) {q : Fin 4} (hd : decode P.2.1 pc = .ok (.astore_n q, 1)) (h1 : am_x_astore q (sm_nx p l e R s m args below meth c Q P D dA base b L xs μ0 n0 cE sE F) CL RT False rk (pc + 1) ts cv cj ls st h) : sm_nx p l e R s m args below meth c Q P D dA base b L xs μ0 n0 cE sE F pc ls st h := by
  unfold am_x_astore at h1
  obtain ⟨x, r, rfl, k⟩ := am_o1_ex h1
  by_cases hk : (q : Nat) < ls.length
  · rw [if_pos hk] at k
    cases x with
    | none => exact ⟨k.1, k.2.1, fun hn μ H locs cells slots A hR hL hw hS hm hc hs => lv_astore_nN hx hb hd rfl hL.has (by rw [← hL.2.2.1]; exact hk) rfl (fun A' h' => (k.2.2 hn μ H locs cells slots A' hR (hL.set1 (v := .null) hk sm_wv_n h') (sm_wt hw) hS hm hc hs))⟩
    | some a => exact ⟨k.1, k.2.1, fun hn μ H locs cells slots A hR hL hw hS hm hc hs => lv_astore_n hx hb hd rfl hL.has (by rw [← hL.2.2.1]; exact hk) rfl (fun A' h' => (k.2.2 hn μ H locs cells slots A' hR (hL.set1 (v := .ref a) hk (hw _ List.mem_cons_self) h') (sm_wt hw) hS hm hc hs))⟩
  · rw [if_neg hk] at k
    exact k.elim
theorem sm_x_iinc (hx : p.tables.exec = Jvm.exec) (hb : c.code = P.2.1) {q : Nat} {z : Int} (hv : Int32.ofInt z = cv) (hd : decode P.2.1 pc = .ok (.iinc q z, 3)) (h1 : am_x_iinc q (sm_nx p l e R s m args below meth c Q P D dA base b L xs μ0 n0 cE sE F) CL RT False rk (pc + 3) ts cv cj ls st h) : sm_nx p l e R s m args below meth c Q P D dA base b L xs μ0 n0 cE sE F pc ls st h := by
  unfold am_x_iinc at h1
  obtain ⟨x, hq, k⟩ := am_ldI_ex h1
  by_cases hk : q < ls.length
  · rw [if_pos hk] at k
    refine ⟨k.1, k.2.1, fun hn μ H locs cells slots A hR hL hw hS hm hc hs => ?_⟩
    have hl : lv_has A P.2.2.1 ((q, .int x) :: sm_as μ ls) := ⟨hL.1, hL.2.1, fun w hw2 => by
      rcases List.mem_cons.mp hw2 with rfl | hw2
      · exact hL.2.2.2.1 q (.int x) hq (by intro z; cases z)
      · exact hL.has.2.2 w hw2⟩
    refine lv_iinc (k := 0) hx hb hd hl rfl (by rw [hv]) (by rw [← hL.2.2.1]; exact hk) rfl (fun A' h' => ?_)
    have h2 : lv_has A' P.2.2.1 ((q, sm_v μ (.int (x + cv))) :: (sm_as μ ls).filter (fun w => !(w.1 == q) && !(w.1 + 1 == q && w.2.category == 2))) := ⟨h'.1, h'.2.1, fun w hw2 => by
      rcases List.mem_cons.mp hw2 with rfl | hw2
      · exact h'.2.2 _ List.mem_cons_self
      · refine h'.2.2 w (List.mem_cons_of_mem _ ?_)
        rw [List.mem_filter] at hw2 ⊢
        exact ⟨List.mem_cons_of_mem _ hw2.1, hw2.2⟩⟩
    exact k.2.2 hn μ H locs cells slots A' hR (hL.set1 (v := .int (x + cv)) hk sm_wv_i h2) hw hS hm hc hs
  · rw [if_neg hk] at k
    exact k.elim
theorem sm_x_ifCond_eq (hx : p.tables.exec = Jvm.exec) (hb : c.code = P.2.1) {off : Int} {t : Nat} (ht : (pc : Int) + off = (t : Int)) (hd : decode P.2.1 pc = .ok (.ifCond .eq off, 3)) (h1 : am_x_ifCond_eq (sm_nx p l e R s m args below meth c Q P D dA base b L xs μ0 n0 cE sE F) CL RT False rk (pc + 3) [t] cv cj ls st h) : sm_nx p l e R s m args below meth c Q P D dA base b L xs μ0 n0 cE sE F pc ls st h := by
  unfold am_x_ifCond_eq at h1
  obtain ⟨x, r, rfl, k⟩ := am_i1_ex h1
  by_cases hq : x = 0
  · rw [if_pos hq] at k
    have rt : x = 0 := hq
    exact ⟨k.1, k.2.1, fun hn μ H locs cells slots A hR hL hw hS hm hc hs => lv_if_eq (tgt := t) hx hb hd ht (fun _ => (k.2.2 hn μ H locs cells slots A hR hL (sm_wt hw) hS hm hc hs)) (fun z => absurd rt z)⟩
  · rw [if_neg hq] at k
    have rt : ¬ (x = 0) := hq
    exact ⟨k.1, k.2.1, fun hn μ H locs cells slots A hR hL hw hS hm hc hs => lv_if_eq (tgt := t) hx hb hd ht (fun z => absurd z rt) (fun _ => (k.2.2 hn μ H locs cells slots A hR hL (sm_wt hw) hS hm hc hs))⟩
theorem sm_x_ifCond_ne (hx : p.tables.exec = Jvm.exec) (hb : c.code = P.2.1) {off : Int} {t : Nat} (ht : (pc : Int) + off = (t : Int)) (hd : decode P.2.1 pc = .ok (.ifCond .ne off, 3)) (h1 : am_x_ifCond_ne (sm_nx p l e R s m args below meth c Q P D dA base b L xs μ0 n0 cE sE F) CL RT False rk (pc + 3) [t] cv cj ls st h) : sm_nx p l e R s m args below meth c Q P D dA base b L xs μ0 n0 cE sE F pc ls st h := by
  unfold am_x_ifCond_ne at h1
  obtain ⟨x, r, rfl, k⟩ := am_i1_ex h1
  by_cases hq : x = 0
  · rw [if_pos hq] at k
    have rt : ¬ (¬ x = 0) := fun z => z hq
    exact ⟨k.1, k.2.1, fun hn μ H locs cells slots A hR hL hw hS hm hc hs => lv_if_ne (tgt := t) hx hb hd ht (fun z => absurd z rt) (fun _ => (k.2.2 hn μ H locs cells slots A hR hL (sm_wt hw) hS hm hc hs))⟩
  · rw [if_neg hq] at k
    have rt : ¬ x = 0 := hq
    exact ⟨k.1, k.2.1, fun hn μ H locs cells slots A hR hL hw hS hm hc hs => lv_if_ne (tgt := t) hx hb hd ht (fun _ => (k.2.2 hn μ H locs cells slots A hR hL (sm_wt hw) hS hm hc hs)) (fun z => absurd z rt)⟩
theorem sm_x_ifCond_lt (hx : p.tables.exec = Jvm.exec) (hb : c.code = P.2.1) {off : Int} {t : Nat} (ht : (pc : Int) + off = (t : Int)) (hd : decode P.2.1 pc = .ok (.ifCond .lt off, 3)) (h1 : am_x_ifCond_lt (sm_nx p l e R s m args below meth c Q P D dA base b L xs μ0 n0 cE sE F) CL RT False rk (pc + 3) [t] cv cj ls st h) : sm_nx p l e R s m args below meth c Q P D dA base b L xs μ0 n0 cE sE F pc ls st h := by
  unfold am_x_ifCond_lt at h1
  obtain ⟨x, r, rfl, k⟩ := am_i1_ex h1
  by_cases hq : x < 0
  · rw [if_pos hq] at k
    have rt : x < 0 := hq
    exact ⟨k.1, k.2.1, fun hn μ H locs cells slots A hR hL hw hS hm hc hs => lv_if_lt (tgt := t) hx hb hd ht (fun _ => (k.2.2 hn μ H locs cells slots A hR hL (sm_wt hw) hS hm hc hs)) (fun z => absurd rt z)⟩
  · rw [if_neg hq] at k
    have rt : ¬ (x < 0) := hq
    exact ⟨k.1, k.2.1, fun hn μ H locs cells slots A hR hL hw hS hm hc hs => lv_if_lt (tgt := t) hx hb hd ht (fun z => absurd z rt) (fun _ => (k.2.2 hn μ H locs cells slots A hR hL (sm_wt hw) hS hm hc hs))⟩
theorem sm_x_ifCond_ge (hx : p.tables.exec = Jvm.exec) (hb : c.code = P.2.1) {off : Int} {t : Nat} (ht : (pc : Int) + off = (t : Int)) (hd : decode P.2.1 pc = .ok (.ifCond .ge off, 3)) (h1 : am_x_ifCond_ge (sm_nx p l e R s m args below meth c Q P D dA base b L xs μ0 n0 cE sE F) CL RT False rk (pc + 3) [t] cv cj ls st h) : sm_nx p l e R s m args below meth c Q P D dA base b L xs μ0 n0 cE sE F pc ls st h := by
  unfold am_x_ifCond_ge at h1
  obtain ⟨x, r, rfl, k⟩ := am_i1_ex h1
  by_cases hq : x < 0
  · rw [if_pos hq] at k
    have rt : ¬ (0 ≤ x) := Int32.not_le.mpr hq
    exact ⟨k.1, k.2.1, fun hn μ H locs cells slots A hR hL hw hS hm hc hs => lv_if_ge (tgt := t) hx hb hd ht (fun z => absurd z rt) (fun _ => (k.2.2 hn μ H locs cells slots A hR hL (sm_wt hw) hS hm hc hs))⟩
  · rw [if_neg hq] at k
    have rt : 0 ≤ x := Int32.not_lt.mp hq
    exact ⟨k.1, k.2.1, fun hn μ H locs cells slots A hR hL hw hS hm hc hs => lv_if_ge (tgt := t) hx hb hd ht (fun _ => (k.2.2 hn μ H locs cells slots A hR hL (sm_wt hw) hS hm hc hs)) (fun z => absurd rt z)⟩
theorem sm_x_ifCond_gt (hx : p.tables.exec = Jvm.exec) (hb : c.code = P.2.1) {off : Int} {t : Nat} (ht : (pc : Int) + off = (t : Int)) (hd : decode P.2.1 pc = .ok (.ifCond .gt off, 3)) (h1 : am_x_ifCond_gt (sm_nx p l e R s m args below meth c Q P D dA base b L xs μ0 n0 cE sE F) CL RT False rk (pc + 3) [t] cv cj ls st h) : sm_nx p l e R s m args below meth c Q P D dA base b L xs μ0 n0 cE sE F pc ls st h := by
  unfold am_x_ifCond_gt at h1
  obtain ⟨x, r, rfl, k⟩ := am_i1_ex h1
  by_cases hq : 0 < x
  · rw [if_pos hq] at k
    have rt : 0 < x := hq
    exact ⟨k.1, k.2.1, fun hn μ H locs cells slots A hR hL hw hS hm hc hs => lv_if_gt (tgt := t) hx hb hd ht (fun _ => (k.2.2 hn μ H locs cells slots A hR hL (sm_wt hw) hS hm hc hs)) (fun z => absurd rt z)⟩
  · rw [if_neg hq] at k
    have rt : ¬ (0 < x) := hq
    exact ⟨k.1, k.2.1, fun hn μ H locs cells slots A hR hL hw hS hm hc hs => lv_if_gt (tgt := t) hx hb hd ht (fun z => absurd z rt) (fun _ => (k.2.2 hn μ H locs cells slots A hR hL (sm_wt hw) hS hm hc hs))⟩
theorem sm_x_ifCond_le (hx : p.tables.exec = Jvm.exec) (hb : c.code = P.2.1) {off : Int} {t : Nat} (ht : (pc : Int) + off = (t : Int)) (hd : decode P.2.1 pc = .ok (.ifCond .le off, 3)) (h1 : am_x_ifCond_le (sm_nx p l e R s m args below meth c Q P D dA base b L xs μ0 n0 cE sE F) CL RT False rk (pc + 3) [t] cv cj ls st h) : sm_nx p l e R s m args below meth c Q P D dA base b L xs μ0 n0 cE sE F pc ls st h := by
  unfold am_x_ifCond_le at h1
  obtain ⟨x, r, rfl, k⟩ := am_i1_ex h1
  by_cases hq : 0 < x
  · rw [if_pos hq] at k
    have rt : ¬ (x ≤ 0) := Int32.not_le.mpr hq
    exact ⟨k.1, k.2.1, fun hn μ H locs cells slots A hR hL hw hS hm hc hs => lv_if_le (tgt := t) hx hb hd ht (fun z => absurd z rt) (fun _ => (k.2.2 hn μ H locs cells slots A hR hL (sm_wt hw) hS hm hc hs))⟩
  · rw [if_neg hq] at k
    have rt : x ≤ 0 := Int32.not_lt.mp hq
    exact ⟨k.1, k.2.1, fun hn μ H locs cells slots A hR hL hw hS hm hc hs => lv_if_le (tgt := t) hx hb hd ht (fun _ => (k.2.2 hn μ H locs cells slots A hR hL (sm_wt hw) hS hm hc hs)) (fun z => absurd rt z)⟩
theorem sm_x_if_icmp_eq (hx : p.tables.exec = Jvm.exec) (hb : c.code = P.2.1) {off : Int} {t : Nat} (ht : (pc : Int) + off = (t : Int)) (hd : decode P.2.1 pc = .ok (.if_icmp .eq off, 3)) (h1 : am_x_if_icmp_eq (sm_nx p l e R s m args below meth c Q P D dA base b L xs μ0 n0 cE sE F) CL RT False rk (pc + 3) [t] cv cj ls st h) : sm_nx p l e R s m args below meth c Q P D dA base b L xs μ0 n0 cE sE F pc ls st h := by
  unfold am_x_if_icmp_eq at h1
  obtain ⟨x, y, r, rfl, k⟩ := am_i2_ex h1
  by_cases hq : x = y
  · rw [if_pos hq] at k
    have rt : x = y := hq
    exact ⟨k.1, k.2.1, fun hn μ H locs cells slots A hR hL hw hS hm hc hs => lv_icmp_eq (tgt := t) hx hb hd ht (fun _ => (k.2.2 hn μ H locs cells slots A hR hL (sm_wt (sm_wt hw)) hS hm hc hs)) (fun z => absurd rt z)⟩
  · rw [if_neg hq] at k
    have rt : ¬ (x = y) := hq
    exact ⟨k.1, k.2.1, fun hn μ H locs cells slots A hR hL hw hS hm hc hs => lv_icmp_eq (tgt := t) hx hb hd ht (fun z => absurd z rt) (fun _ => (k.2.2 hn μ H locs cells slots A hR hL (sm_wt (sm_wt hw)) hS hm hc hs))⟩
theorem sm_x_if_icmp_ne (hx : p.tables.exec = Jvm.exec) (hb : c.code = P.2.1) {off : Int} {t : Nat} (ht : (pc : Int) + off = (t : Int)) (hd : decode P.2.1 pc = .ok (.if_icmp .ne off, 3)) (h1 : am_x_if_icmp_ne (sm_nx p l e R s m args below meth c Q P D dA base b L xs μ0 n0 cE sE F) CL RT False rk (pc + 3) [t] cv cj ls st h) : sm_nx p l e R s m args below meth c Q P D dA base b L xs μ0 n0 cE sE F pc ls st h := by
  unfold am_x_if_icmp_ne at h1
  obtain ⟨x, y, r, rfl, k⟩ := am_i2_ex h1
  by_cases hq : x = y
  · rw [if_pos hq] at k
    have rt : ¬ (¬ x = y) := fun z => z hq
    exact ⟨k.1, k.2.1, fun hn μ H locs cells slots A hR hL hw hS hm hc hs => lv_icmp_ne (tgt := t) hx hb hd ht (fun z => absurd z rt) (fun _ => (k.2.2 hn μ H locs cells slots A hR hL (sm_wt (sm_wt hw)) hS hm hc hs))⟩
  · rw [if_neg hq] at k
    have rt : ¬ x = y := hq
    exact ⟨k.1, k.2.1, fun hn μ H locs cells slots A hR hL hw hS hm hc hs => lv_icmp_ne (tgt := t) hx hb hd ht (fun _ => (k.2.2 hn μ H locs cells slots A hR hL (sm_wt (sm_wt hw)) hS hm hc hs)) (fun z => absurd z rt)⟩
theorem sm_x_if_icmp_lt (hx : p.tables.exec = Jvm.exec) (hb : c.code = P.2.1) {off : Int} {t : Nat} (ht : (pc : Int) + off = (t : Int)) (hd : decode P.2.1 pc = .ok (.if_icmp .lt off, 3)) (h1 : am_x_if_icmp_lt (sm_nx p l e R s m args below meth c Q P D dA base b L xs μ0 n0 cE sE F) CL RT False rk (pc + 3) [t] cv cj ls st h) : sm_nx p l e R s m args below meth c Q P D dA base b L xs μ0 n0 cE sE F pc ls st h := by
  unfold am_x_if_icmp_lt at h1
  obtain ⟨x, y, r, rfl, k⟩ := am_i2_ex h1
  by_cases hq : x < y
  · rw [if_pos hq] at k
    have rt : x < y := hq
    exact ⟨k.1, k.2.1, fun hn μ H locs cells slots A hR hL hw hS hm hc hs => lv_icmp_lt (tgt := t) hx hb hd ht (fun _ => (k.2.2 hn μ H locs cells slots A hR hL (sm_wt (sm_wt hw)) hS hm hc hs)) (fun z => absurd rt z)⟩
  · rw [if_neg hq] at k
    have rt : ¬ (x < y) := hq
    exact ⟨k.1, k.2.1, fun hn μ H locs cells slots A hR hL hw hS hm hc hs => lv_icmp_lt (tgt := t) hx hb hd ht (fun z => absurd z rt) (fun _ => (k.2.2 hn μ H locs cells slots A hR hL (sm_wt (sm_wt hw)) hS hm hc hs))⟩
theorem sm_x_if_icmp_ge (hx : p.tables.exec = Jvm.exec) (hb : c.code = P.2.1) {off : Int} {t : Nat} (ht : (pc : Int) + off = (t : Int)) (hd : decode P.2.1 pc = .ok (.if_icmp .ge off, 3)) (h1 : am_x_if_icmp_ge (sm_nx p l e R s m args below meth c Q P D dA base b L xs μ0 n0 cE sE F) CL RT False rk (pc + 3) [t] cv cj ls st h) : sm_nx p l e R s m args below meth c Q P D dA base b L xs μ0 n0 cE sE F pc ls st h := by
  unfold am_x_if_icmp_ge at h1
  obtain ⟨x, y, r, rfl, k⟩ := am_i2_ex h1
  by_cases hq : x < y
  · rw [if_pos hq] at k
    have rt : ¬ (y ≤ x) := Int32.not_le.mpr hq
    exact ⟨k.1, k.2.1, fun hn μ H locs cells slots A hR hL hw hS hm hc hs => lv_icmp_ge (tgt := t) hx hb hd ht (fun z => absurd z rt) (fun _ => (k.2.2 hn μ H locs cells slots A hR hL (sm_wt (sm_wt hw)) hS hm hc hs))⟩
  · rw [if_neg hq] at k
    have rt : y ≤ x := Int32.not_lt.mp hq
    exact ⟨k.1, k.2.1, fun hn μ H locs cells slots A hR hL hw hS hm hc hs => lv_icmp_ge (tgt := t) hx hb hd ht (fun _ => (k.2.2 hn μ H locs cells slots A hR hL (sm_wt (sm_wt hw)) hS hm hc hs)) (fun z => absurd rt z)⟩
theorem sm_x_if_icmp_gt (hx : p.tables.exec = Jvm.exec) (hb : c.code = P.2.1) {off : Int} {t : Nat} (ht : (pc : Int) + off = (t : Int)) (hd : decode P.2.1 pc = .ok (.if_icmp .gt off, 3)) (h1 : am_x_if_icmp_gt (sm_nx p l e R s m args below meth c Q P D dA base b L xs μ0 n0 cE sE F) CL RT False rk (pc + 3) [t] cv cj ls st h) : sm_nx p l e R s m args below meth c Q P D dA base b L xs μ0 n0 cE sE F pc ls st h := by
  unfold am_x_if_icmp_gt at h1
  obtain ⟨x, y, r, rfl, k⟩ := am_i2_ex h1
  by_cases hq : y < x
  · rw [if_pos hq] at k
    have rt : y < x := hq
    exact ⟨k.1, k.2.1, fun hn μ H locs cells slots A hR hL hw hS hm hc hs => lv_icmp_gt (tgt := t) hx hb hd ht (fun _ => (k.2.2 hn μ H locs cells slots A hR hL (sm_wt (sm_wt hw)) hS hm hc hs)) (fun z => absurd rt z)⟩
  · rw [if_neg hq] at k
    have rt : ¬ (y < x) := hq
    exact ⟨k.1, k.2.1, fun hn μ H locs cells slots A hR hL hw hS hm hc hs => lv_icmp_gt (tgt := t) hx hb hd ht (fun z => absurd z rt) (fun _ => (k.2.2 hn μ H locs cells slots A hR hL (sm_wt (sm_wt hw)) hS hm hc hs))⟩
theorem sm_x_if_icmp_le (hx : p.tables.exec = Jvm.exec) (hb : c.code = P.2.1) {off : Int} {t : Nat} (ht : (pc : Int) + off = (t : Int)) (hd : decode P.2.1 pc = .ok (.if_icmp .le off, 3)) (h1 : am_x_if_icmp_le (sm_nx p l e R s m args below meth c Q P D dA base b L xs μ0 n0 cE sE F) CL RT False rk (pc + 3) [t] cv cj ls st h) : sm_nx p l e R s m args below meth c Q P D dA base b L xs μ0 n0 cE sE F pc ls st h := by
  unfold am_x_if_icmp_le at h1
  obtain ⟨x, y, r, rfl, k⟩ := am_i2_ex h1
  by_cases hq : y < x
  · rw [if_pos hq] at k
    have rt : ¬ (x ≤ y) := Int32.not_le.mpr hq
    exact ⟨k.1, k.2.1, fun hn μ H locs cells slots A hR hL hw hS hm hc hs => lv_icmp_le (tgt := t) hx hb hd ht (fun z => absurd z rt) (fun _ => (k.2.2 hn μ H locs cells slots A hR hL (sm_wt (sm_wt hw)) hS hm hc hs))⟩
  · rw [if_neg hq] at k
    have rt : x ≤ y := Int32.not_lt.mp hq
    exact ⟨k.1, k.2.1, fun hn μ H locs cells slots A hR hL hw hS hm hc hs => lv_icmp_le (tgt := t) hx hb hd ht (fun _ => (k.2.2 hn μ H locs cells slots A hR hL (sm_wt (sm_wt hw)) hS hm hc hs)) (fun z => absurd rt z)⟩
theorem sm_x_goto (hx : p.tables.exec = Jvm.exec) (hb : c.code = P.2.1) {off : Int} {t : Nat} (ht : (pc : Int) + off = (t : Int)) (hd : decode P.2.1 pc = .ok (.goto off, 3)) (h1 : am_x_goto (sm_nx p l e R s m args below meth c Q P D dA base b L xs μ0 n0 cE sE F) CL RT False rk (pc + 3) [t] cv cj ls st h) : sm_nx p l e R s m args below meth c Q P D dA base b L xs μ0 n0 cE sE F pc ls st h := by
  unfold am_x_goto at h1
  exact ⟨h1.1, h1.2.1, fun hn μ H locs cells slots A hR hL hw hS hm hc hs => lv_goto (tgt := t) hx hb hd ht (h1.2.2 hn μ H locs cells slots A hR hL (hw) hS hm hc hs)⟩
theorem sm_x_ifnonnull (hx : p.tables.exec = Jvm.exec) (hb : c.code = P.2.1) {off : Int} {t : Nat} (ht : (pc : Int) + off = (t : Int)) (hd : decode P.2.1 pc = .ok (.ifnonnull off, 3)) (h1 : am_x_ifnonnull (sm_nx p l e R s m args below meth c Q P D dA base b L xs μ0 n0 cE sE F) CL RT False rk (pc + 3) [t] cv cj ls st h) : sm_nx p l e R s m args below meth c Q P D dA base b L xs μ0 n0 cE sE F pc ls st h := by
  unfold am_x_ifnonnull at h1
  obtain ⟨x, r, rfl, k⟩ := am_o1_ex h1
  cases x with
  | none =>
    have k : sm_nx p l e R s m args below meth c Q P D dA base b L xs μ0 n0 cE sE F (pc + 3) ls r h := k
    exact ⟨k.1, k.2.1, fun hn μ H locs cells slots A hR hL hw hS hm hc hs => lv_ifnonnullN hx hb hd (k.2.2 hn μ H locs cells slots A hR hL (sm_wt hw) hS hm hc hs)⟩
  | some a =>
    have k : sm_nx p l e R s m args below meth c Q P D dA base b L xs μ0 n0 cE sE F t ls r h := k
    exact ⟨k.1, k.2.1, fun hn μ H locs cells slots A hR hL hw hS hm hc hs => lv_ifnonnull (tgt := t) hx hb hd ht (k.2.2 hn μ H locs cells slots A hR hL (sm_wt hw) hS hm hc hs)⟩
end steps
