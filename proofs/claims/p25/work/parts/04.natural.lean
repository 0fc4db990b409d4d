theorem am_i1_nat.{u, v} {α : Sort u} {β : Sort v} (f : α → β) (no : α) (g : Int32 → List Value → α) (st : List Value) : f (am_i1 no g st) = am_i1 (f no) (fun x r => f (g x r)) st := by
  unfold am_i1
  split <;> first | rfl | (split <;> rfl)
theorem am_i2_nat.{u, v} {α : Sort u} {β : Sort v} (f : α → β) (no : α) (g : Int32 → Int32 → List Value → α) (st : List Value) : f (am_i2 no g st) = am_i2 (f no) (fun x y r => f (g x y r)) st := by
  unfold am_i2
  split <;> first | rfl | (split <;> rfl)
theorem am_l1_nat.{u, v} {α : Sort u} {β : Sort v} (f : α → β) (no : α) (g : Int64 → List Value → α) (st : List Value) : f (am_l1 no g st) = am_l1 (f no) (fun x r => f (g x r)) st := by
  unfold am_l1
  split <;> first | rfl | (split <;> rfl)
theorem am_l2_nat.{u, v} {α : Sort u} {β : Sort v} (f : α → β) (no : α) (g : Int64 → Int64 → List Value → α) (st : List Value) : f (am_l2 no g st) = am_l2 (f no) (fun x y r => f (g x y r)) st := by
  unfold am_l2
  split <;> first | rfl | (split <;> rfl)
theorem am_li_nat.{u, v} {α : Sort u} {β : Sort v} (f : α → β) (no : α) (g : Int64 → Int32 → List Value → α) (st : List Value) : f (am_li no g st) = am_li (f no) (fun x y r => f (g x y r)) st := by
  unfold am_li
  split <;> first | rfl | (split <;> rfl)
theorem am_r1_nat.{u, v} {α : Sort u} {β : Sort v} (f : α → β) (no : α) (g : Nat → List Value → α) (st : List Value) : f (am_r1 no g st) = am_r1 (f no) (fun x r => f (g x r)) st := by
  unfold am_r1
  split <;> first | rfl | (split <;> rfl)
theorem am_o1_nat.{u, v} {α : Sort u} {β : Sort v} (f : α → β) (no : α) (g : Option Nat → List Value → α) (st : List Value) : f (am_o1 no g st) = am_o1 (f no) (fun x r => f (g x r)) st := by
  unfold am_o1
  split <;> first | rfl | (split <;> rfl)
theorem am_ai_nat.{u, v} {α : Sort u} {β : Sort v} (f : α → β) (no : α) (g : Nat → Int32 → List Value → α) (st : List Value) : f (am_ai no g st) = am_ai (f no) (fun a x r => f (g a x r)) st := by
  unfold am_ai
  split <;> first | rfl | (split <;> rfl)
theorem am_aii_nat.{u, v} {α : Sort u} {β : Sort v} (f : α → β) (no : α) (g : Nat → Int32 → Int32 → List Value → α) (st : List Value) : f (am_aii no g st) = am_aii (f no) (fun a x y r => f (g a x y r)) st := by
  unfold am_aii
  split <;> first | rfl | (split <;> rfl)
theorem am_ail_nat.{u, v} {α : Sort u} {β : Sort v} (f : α → β) (no : α) (g : Nat → Int32 → Int64 → List Value → α) (st : List Value) : f (am_ail no g st) = am_ail (f no) (fun a x y r => f (g a x y r)) st := by
  unfold am_ail
  split <;> first | rfl | (split <;> rfl)
theorem am_air_nat.{u, v} {α : Sort u} {β : Sort v} (f : α → β) (no : α) (g : Nat → Int32 → Option Nat → List Value → α) (st : List Value) : f (am_air no g st) = am_air (f no) (fun a x y r => f (g a x y r)) st := by
  unfold am_air
  split <;> first | rfl | (split <;> rfl)
theorem am_ri_nat.{u, v} {α : Sort u} {β : Sort v} (f : α → β) (no : α) (g : Nat → Int32 → List Value → α) (st : List Value) : f (am_ri no g st) = am_ri (f no) (fun a x r => f (g a x r)) st := by
  unfold am_ri
  split <;> first | rfl | (split <;> rfl)
theorem am_rr_nat.{u, v} {α : Sort u} {β : Sort v} (f : α → β) (no : α) (g : Nat → Option Nat → List Value → α) (st : List Value) : f (am_rr no g st) = am_rr (f no) (fun a x r => f (g a x r)) st := by
  unfold am_rr
  split <;> first | rfl | (split <;> rfl)
theorem am_v1_nat.{u, v} {α : Sort u} {β : Sort v} (f : α → β) (no : α) (g : Value → List Value → α) (st : List Value) : f (am_v1 no g st) = am_v1 (f no) (fun v r => f (g v r)) st := by
  unfold am_v1
  split <;> first | rfl | (split <;> rfl)
theorem am_v2_nat.{u, v} {α : Sort u} {β : Sort v} (f : α → β) (no : α) (g : Value → Value → List Value → α) (st : List Value) : f (am_v2 no g st) = am_v2 (f no) (fun v w r => f (g v w r)) st := by
  unfold am_v2
  split <;> first | rfl | (split <;> rfl)
theorem am_ldI_nat.{u, v} {α : Sort u} {β : Sort v} (f : α → β) (no : α) (g : Int32 → α) (o : Option Value) : f (am_ldI no g o) = am_ldI (f no) (fun x => f (g x)) o := by
  unfold am_ldI
  split <;> rfl
theorem am_ldJ_nat.{u, v} {α : Sort u} {β : Sort v} (f : α → β) (no : α) (g : Int64 → α) (o : Option Value) : f (am_ldJ no g o) = am_ldJ (f no) (fun x => f (g x)) o := by
  unfold am_ldJ
  split <;> rfl
theorem am_ldA_nat.{u, v} {α : Sort u} {β : Sort v} (f : α → β) (no : α) (g : Option Nat → α) (o : Option Value) : f (am_ldA no g o) = am_ldA (f no) (fun x => f (g x)) o := by
  unfold am_ldA
  split <;> rfl
theorem am_oe_nat.{u, v} {α : Sort u} {β : Sort v} (f : α → β) (o : Option Nat) (x : α) (g : Nat → α) : f (am_oe o x g) = am_oe o (f x) (fun b => f (g b)) := by
  unfold am_oe
  split <;> rfl
theorem am_sw_nat.{u, v} {α : Sort u} {β : Sort v} (f : α → β) (g : Nat → α) (x : Int32) (d : Nat) : ∀ (l : List Nat) (k : Nat), f (am_sw g x d k l) = am_sw (fun p => f (g p)) x d k l
  | [], k => rfl
  | t :: r, k => by
    unfold am_sw
    split
    · rfl
    · exact am_sw_nat f g x d r (k + 1)
theorem am_ite_nat.{u, v} {α : Sort u} {β : Sort v} (f : α → β) (c : Prop) [Decidable c] (a b : α) : f (if c then a else b) = if c then f a else f b := by split <;> rfl
theorem am_inv_nat.{u, v} {α : Sort u} {β : Sort v} (f : α → β) (nx : Nat → List Value → List Value → AH → α) (cl : Nat → Nat → Nat → List Value → Nat → List Value → List Value → AH → α) (no : α) (n : Nat) (ts : List Nat) (ls st : List Value) (h : AH) : f (am_inv nx cl no n ts ls st h) = am_inv (fun a b c d => f (nx a b c d)) (fun a b c d e g i j => f (cl a b c d e g i j)) (f no) n ts ls st h := by
  unfold am_inv
  split
  · split <;> simp only [am_ite_nat f]
  · split <;> simp only [am_ite_nat f]
  · split <;> simp only [am_ite_nat f]
  · split <;> simp only [am_ite_nat f]
  · rfl
set_option maxHeartbeats 4000000 in
theorem am_exe_nat.{u, v} {α : Sort u} {β : Sort v} (f : α → β) (nx : Nat → List Value → List Value → AH → α) (cl : Nat → Nat → Nat → List Value → Nat → List Value → List Value → AH → α) (rt : Option Value → AH → α) (no : α) (rk : Nat) (i : Instr) (n : Nat) (ts : List Nat) (cv : Int32) (cj : Int64) (ls st : List Value) (h : AH) : f (am_exe nx cl rt no rk i n ts cv cj ls st h) = am_exe (fun a b c d => f (nx a b c d)) (fun a b c d e g i j => f (cl a b c d e g i j)) (fun v h => f (rt v h)) (f no) rk i n ts cv cj ls st h := by
  cases i <;> dsimp only [am_exe, am_sel, am_x_cI, am_x_cJ, am_x_aconst_null, am_x_iload, am_x_lload, am_x_aload, am_x_istore, am_x_lstore, am_x_astore, am_x_iinc, am_x_iadd, am_x_isub, am_x_imul, am_x_iand, am_x_ior, am_x_ixor, am_x_idiv, am_x_irem, am_x_ishl, am_x_ishr, am_x_ladd, am_x_lsub, am_x_lmul, am_x_land, am_x_lor, am_x_lxor, am_x_ldiv, am_x_lrem, am_x_lneg, am_x_lshl, am_x_lushr, am_x_lcmp, am_x_i2l, am_x_l2i, am_x_i2c, am_x_dup, am_x_dup2, am_x_ifCond_eq, am_x_ifCond_ne, am_x_ifCond_lt, am_x_ifCond_ge, am_x_ifCond_gt, am_x_ifCond_le, am_x_if_icmp_eq, am_x_if_icmp_ne, am_x_if_icmp_lt, am_x_if_icmp_ge, am_x_if_icmp_gt, am_x_if_icmp_le, am_x_ifnonnull, am_x_goto, am_x_tableswitch, am_x_getfield, am_x_putfield, am_x_new, am_x_newarray, am_x_anewarray, am_x_arraylength, am_x_iaload, am_x_laload, am_x_caload, am_x_aaload, am_x_iastore, am_x_lastore, am_x_castore, am_x_aastore, am_x_inv, am_x_ireturn, am_x_lreturn, am_x_areturn, am_x_return_, am_x_no] <;> first
    | rfl
    | exact am_inv_nat f nx cl no n ts ls st h
    | (simp only [am_i1_nat f, am_i2_nat f, am_l1_nat f, am_l2_nat f, am_li_nat f, am_r1_nat f, am_o1_nat f, am_ai_nat f, am_aii_nat f, am_ail_nat f, am_air_nat f, am_ri_nat f, am_rr_nat f, am_v1_nat f, am_v2_nat f, am_ldI_nat f, am_ldJ_nat f, am_ldA_nat f, am_oe_nat f, am_sw_nat f, am_ite_nat f]; done)
    | (split <;> first | rfl | (split <;> first | rfl | (split <;> rfl)) | (simp only [am_i1_nat f, am_i2_nat f, am_l1_nat f, am_l2_nat f, am_li_nat f, am_r1_nat f, am_o1_nat f, am_ai_nat f, am_aii_nat f, am_ail_nat f, am_air_nat f, am_ri_nat f, am_rr_nat f, am_v1_nat f, am_v2_nat f, am_ldI_nat f, am_ldJ_nat f, am_ldA_nat f, am_oe_nat f, am_sw_nat f, am_ite_nat f]; done))
    | (rename_i c _; cases c <;> dsimp only [am_x_ifCond_eq, am_x_ifCond_ne, am_x_ifCond_lt, am_x_ifCond_ge, am_x_ifCond_gt, am_x_ifCond_le, am_x_if_icmp_eq, am_x_if_icmp_ne, am_x_if_icmp_lt, am_x_if_icmp_ge, am_x_if_icmp_gt, am_x_if_icmp_le, am_x_ifnonnull] <;> (split <;> first | rfl | (simp only [am_i1_nat f, am_i2_nat f, am_l1_nat f, am_l2_nat f, am_li_nat f, am_r1_nat f, am_o1_nat f, am_ai_nat f, am_aii_nat f, am_ail_nat f, am_air_nat f, am_ri_nat f, am_rr_nat f, am_v1_nat f, am_v2_nat f, am_ldI_nat f, am_ldJ_nat f, am_ldA_nat f, am_oe_nat f, am_sw_nat f, am_ite_nat f]; done)))
    | skip
