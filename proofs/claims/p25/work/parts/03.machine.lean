/-! ===== THE SMALL MACHINE: a JVM of ints, longs and references over a plain memory, as a function; no kit in it but the names of instructions and values ===== -/
/-- what stands where no local is -/
abbrev am_ph : Value := .retAddr 0
/-- a memory: for each cell its kind (0 to 4 an object of that class, 5 int[], 6 long[], 7 char[], 8 State[], 9 the script) and its size; its ints, longs, references -/
abbrev AH : Type := List (Nat × Nat) × (Nat → Nat → Int32) × (Nat → Nat → Int64) × (Nat → Nat → Option Nat)
abbrev AR : Type := Option (Option Value × AH)
def am_kd (h : AH) (a : Nat) : Nat := (h.1.getD a (99, 0)).1
def am_ln (h : AH) (a : Nat) : Nat := (h.1.getD a (99, 0)).2
def am_I (h : AH) : Nat → Nat → Int32 := h.2.1
def am_J (h : AH) : Nat → Nat → Int64 := h.2.2.1
def am_R (h : AH) : Nat → Nat → Option Nat := h.2.2.2
def am_ud {α : Type} (f : Nat → α) (k : Nat) (v : α) : Nat → α := fun j => if j = k then v else f j
def am_rI (h : AH) (a : Nat) (f : Nat → Int32) : AH := (h.1, am_ud h.2.1 a f, h.2.2.1, h.2.2.2)
def am_rJ (h : AH) (a : Nat) (f : Nat → Int64) : AH := (h.1, h.2.1, am_ud h.2.2.1 a f, h.2.2.2)
def am_rR (h : AH) (a : Nat) (f : Nat → Option Nat) : AH := (h.1, h.2.1, h.2.2.1, am_ud h.2.2.2 a f)
def am_sI (h : AH) (a k : Nat) (v : Int32) : AH := am_rI h a (am_ud (am_I h a) k v)
def am_sJ (h : AH) (a k : Nat) (v : Int64) : AH := am_rJ h a (am_ud (am_J h a) k v)
def am_sR (h : AH) (a k : Nat) (v : Option Nat) : AH := am_rR h a (am_ud (am_R h a) k v)
def am_nw (h : AH) (k n : Nat) : AH := (h.1 ++ [(k, n)], am_ud h.2.1 h.1.length (fun _ => 0), am_ud h.2.2.1 h.1.length (fun _ => 0), am_ud h.2.2.2 h.1.length (fun _ => none))
/-- an instruction: where, what, the next one's place, its numbers (targets, fields, methods), its constants -/
abbrev AE : Type := Nat × Instr × Nat × List Nat × Int32 × Int64
/-- a method: its code, its locals, what it returns (0 nothing, 1 int, 2 boolean, 3 long, 4 a reference), which locals are dead at a place -/
abbrev AMe : Type := List AE × Nat × Nat × List (Nat × List Nat)
def am_fetch : List AE → Nat → Option AE
  | [], _ => none
  | q :: r, pc => bif Nat.beq q.1 pc then some q else am_fetch r pc
section helpers
def am_half : Value → Value
  | .long _ => am_ph
  | .double _ => am_ph
  | v => v
def am_i1.{u} {α : Sort u} (no : α) (f : Int32 → List Value → α) : List Value → α
  | .int x :: r => f x r
  | _ => no
def am_i2.{u} {α : Sort u} (no : α) (f : Int32 → Int32 → List Value → α) : List Value → α
  | .int y :: .int x :: r => f x y r
  | _ => no
def am_l1.{u} {α : Sort u} (no : α) (f : Int64 → List Value → α) : List Value → α
  | .long x :: r => f x r
  | _ => no
def am_l2.{u} {α : Sort u} (no : α) (f : Int64 → Int64 → List Value → α) : List Value → α
  | .long y :: .long x :: r => f x y r
  | _ => no
def am_li.{u} {α : Sort u} (no : α) (f : Int64 → Int32 → List Value → α) : List Value → α
  | .int y :: .long x :: r => f x y r
  | _ => no
def am_r1.{u} {α : Sort u} (no : α) (f : Nat → List Value → α) : List Value → α
  | .ref a :: r => f a r
  | _ => no
/-- a reference or null -/
def am_o1.{u} {α : Sort u} (no : α) (f : Option Nat → List Value → α) : List Value → α
  | .ref a :: r => f (some a) r
  | .null :: r => f none r
  | _ => no
def am_ai.{u} {α : Sort u} (no : α) (f : Nat → Int32 → List Value → α) : List Value → α
  | .int i :: .ref a :: r => f a i r
  | _ => no
def am_aii.{u} {α : Sort u} (no : α) (f : Nat → Int32 → Int32 → List Value → α) : List Value → α
  | .int x :: .int i :: .ref a :: r => f a i x r
  | _ => no
def am_ail.{u} {α : Sort u} (no : α) (f : Nat → Int32 → Int64 → List Value → α) : List Value → α
  | .long x :: .int i :: .ref a :: r => f a i x r
  | _ => no
def am_air.{u} {α : Sort u} (no : α) (f : Nat → Int32 → Option Nat → List Value → α) : List Value → α
  | .ref b :: .int i :: .ref a :: r => f a i (some b) r
  | .null :: .int i :: .ref a :: r => f a i none r
  | _ => no
def am_ri.{u} {α : Sort u} (no : α) (f : Nat → Int32 → List Value → α) : List Value → α
  | .int x :: .ref a :: r => f a x r
  | _ => no
def am_rr.{u} {α : Sort u} (no : α) (f : Nat → Option Nat → List Value → α) : List Value → α
  | .ref b :: .ref a :: r => f a (some b) r
  | .null :: .ref a :: r => f a none r
  | _ => no
def am_v1.{u} {α : Sort u} (no : α) (f : Value → List Value → α) : List Value → α
  | v :: r => if v.category = 1 then f v r else no
  | _ => no
def am_v2.{u} {α : Sort u} (no : α) (f : Value → Value → List Value → α) : List Value → α
  | v :: w :: r => if v.category = 1 ∧ w.category = 1 then f v w r else no
  | _ => no
def am_ldI.{u} {α : Sort u} (no : α) (f : Int32 → α) : Option Value → α
  | some (.int x) => f x
  | _ => no
def am_ldJ.{u} {α : Sort u} (no : α) (f : Int64 → α) : Option Value → α
  | some (.long x) => f x
  | _ => no
def am_ldA.{u} {α : Sort u} (no : α) (f : Option Nat → α) : Option Value → α
  | some (.ref a) => f (some a)
  | some .null => f none
  | _ => no
def am_oe.{u} {α : Sort u} (o : Option Nat) (x : α) (f : Nat → α) : α := match o with
  | none => x
  | some a => f a
/-- a value of one word laid into a place: the first half of a long that ended there is no more -/
def am_set1 : List Value → Nat → Value → List Value
  | [], _, _ => []
  | _ :: r, 0, v => v :: r
  | a :: r, 1, v => am_half a :: am_set1 r 0 v
  | a :: r, k + 2, v => a :: am_set1 r (k + 1) v
/-- a long laid into a place and the next one -/
def am_set2 : List Value → Nat → Value → List Value
  | [], _, _ => []
  | _ :: r, 0, v => v :: am_set1 r 0 am_ph
  | a :: r, 1, v => am_half a :: am_set2 r 0 v
  | a :: r, k + 2, v => a :: am_set2 r (k + 1) v
def am_sw.{u} {α : Sort u} (f : Nat → α) (x : Int32) (d : Nat) : Nat → List Nat → α
  | _, [] => f d
  | k, t :: r => if x = nI k then f t else am_sw f x d (k + 1) r
def am_pop : Nat → List Value → List Value → Option (List Value × List Value)
  | 0, st, acc => some (acc, st)
  | n + 1, v :: st, acc => am_pop n st (v :: acc)
  | _ + 1, [], _ => none
def am_w8 (st : List Value) : Nat := (st.map fun v => v.category).sum
def am_ob (v : Option Nat) : Value := match v with
  | none => .null
  | some a => .ref a
def am_bit (x : Int32) : Prop := x = 0 ∨ x = 1
end helpers
def am_pad : List Value → List Value
  | [] => []
  | .long x :: r => .long x :: am_ph :: am_pad r
  | v :: r => v :: am_pad r
def am_cpy (f g : Nat → Int32) (sp dp n : Nat) : Nat → Int32 := fun k => if dp ≤ k ∧ k < dp + n then f (sp + (k - dp)) else g k
/-- a call: numbers are the method, its arguments behind the receiver, the kind (0 with a receiver, 1 static), what the method returns, its locals, the receiver's class; 2 Object's constructor, 3 arraycopy -/
def am_inv.{u} {α : Sort u} (nx : Nat → List Value → List Value → AH → α) (cl : Nat → Nat → Nat → List Value → Nat → List Value → List Value → AH → α) (no : α) (n : Nat) (ts : List Nat) (ls st : List Value) (h : AH) : α := match ts with
  | [mi, na, 1, rk, nL] => match am_pop na st [] with
    | some (as, r) => if am_w8 r ≤ 8 ∧ (am_pad as).length ≤ nL then cl mi rk nL as n ls r h else no
    | none => no
  | [mi, na, 0, rk, nL, rc] => match am_pop na st [] with
    | some (as, .ref b :: r) => if am_kd h b = rc then (if am_w8 r ≤ 8 ∧ (am_pad (.ref b :: as)).length ≤ nL then cl mi rk nL (.ref b :: as) n ls r h else no) else no
    | _ => no
  | [2] => match st with
    | .ref _ :: r => if am_w8 r ≤ 8 then nx n ls r h else no
    | _ => no
  | [3, _] => match st with
    | .int c :: .int dp :: .ref d :: .int sp :: .ref s :: r => if am_kd h s = 5 ∧ am_kd h d = 5 ∧ ¬ sp < 0 ∧ ¬ dp < 0 ∧ ¬ c < 0 ∧ sp.toNatClampNeg + c.toNatClampNeg ≤ am_ln h s ∧ dp.toNatClampNeg + c.toNatClampNeg ≤ am_ln h d ∧ am_w8 r ≤ 8 then nx n ls r (am_rI h d (am_cpy (am_I h s) (am_I h d) sp.toNatClampNeg dp.toNatClampNeg c.toNatClampNeg)) else no
    | _ => no
  | _ => no
section ops
def am_x_cI.{u} {α : Sort u} (nx : Nat → List Value → List Value → AH → α) (cl : Nat → Nat → Nat → List Value → Nat → List Value → List Value → AH → α) (rt : Option Value → AH → α) (no : α) (rk : Nat) (n : Nat) (ts : List Nat) (cv : Int32) (cj : Int64) (ls st : List Value) (h : AH) : α := nx n ls (.int cv :: st) h
def am_x_cJ.{u} {α : Sort u} (nx : Nat → List Value → List Value → AH → α) (cl : Nat → Nat → Nat → List Value → Nat → List Value → List Value → AH → α) (rt : Option Value → AH → α) (no : α) (rk : Nat) (n : Nat) (ts : List Nat) (cv : Int32) (cj : Int64) (ls st : List Value) (h : AH) : α := nx n ls (.long cj :: st) h
def am_x_aconst_null.{u} {α : Sort u} (nx : Nat → List Value → List Value → AH → α) (cl : Nat → Nat → Nat → List Value → Nat → List Value → List Value → AH → α) (rt : Option Value → AH → α) (no : α) (rk : Nat) (n : Nat) (ts : List Nat) (cv : Int32) (cj : Int64) (ls st : List Value) (h : AH) : α := nx n ls (.null :: st) h
def am_x_iload.{u} (k : Nat) {α : Sort u} (nx : Nat → List Value → List Value → AH → α) (cl : Nat → Nat → Nat → List Value → Nat → List Value → List Value → AH → α) (rt : Option Value → AH → α) (no : α) (rk : Nat) (n : Nat) (ts : List Nat) (cv : Int32) (cj : Int64) (ls st : List Value) (h : AH) : α := am_ldI no (fun x => nx n ls (.int x :: st) h) ls[k]?
def am_x_lload.{u} (k : Nat) {α : Sort u} (nx : Nat → List Value → List Value → AH → α) (cl : Nat → Nat → Nat → List Value → Nat → List Value → List Value → AH → α) (rt : Option Value → AH → α) (no : α) (rk : Nat) (n : Nat) (ts : List Nat) (cv : Int32) (cj : Int64) (ls st : List Value) (h : AH) : α := am_ldJ no (fun x => nx n ls (.long x :: st) h) ls[k]?
def am_x_aload.{u} (k : Nat) {α : Sort u} (nx : Nat → List Value → List Value → AH → α) (cl : Nat → Nat → Nat → List Value → Nat → List Value → List Value → AH → α) (rt : Option Value → AH → α) (no : α) (rk : Nat) (n : Nat) (ts : List Nat) (cv : Int32) (cj : Int64) (ls st : List Value) (h : AH) : α := am_ldA no (fun o => nx n ls (am_ob o :: st) h) ls[k]?
def am_x_istore.{u} (k : Nat) {α : Sort u} (nx : Nat → List Value → List Value → AH → α) (cl : Nat → Nat → Nat → List Value → Nat → List Value → List Value → AH → α) (rt : Option Value → AH → α) (no : α) (rk : Nat) (n : Nat) (ts : List Nat) (cv : Int32) (cj : Int64) (ls st : List Value) (h : AH) : α := am_i1 no (fun x r => if k < ls.length then nx n (am_set1 ls k (.int x)) r h else no) st
def am_x_lstore.{u} (k : Nat) {α : Sort u} (nx : Nat → List Value → List Value → AH → α) (cl : Nat → Nat → Nat → List Value → Nat → List Value → List Value → AH → α) (rt : Option Value → AH → α) (no : α) (rk : Nat) (n : Nat) (ts : List Nat) (cv : Int32) (cj : Int64) (ls st : List Value) (h : AH) : α := am_l1 no (fun x r => if k + 1 < ls.length then nx n (am_set2 ls k (.long x)) r h else no) st
def am_x_astore.{u} (k : Nat) {α : Sort u} (nx : Nat → List Value → List Value → AH → α) (cl : Nat → Nat → Nat → List Value → Nat → List Value → List Value → AH → α) (rt : Option Value → AH → α) (no : α) (rk : Nat) (n : Nat) (ts : List Nat) (cv : Int32) (cj : Int64) (ls st : List Value) (h : AH) : α := am_o1 no (fun o r => if k < ls.length then nx n (am_set1 ls k (am_ob o)) r h else no) st
def am_x_iinc.{u} (k : Nat) {α : Sort u} (nx : Nat → List Value → List Value → AH → α) (cl : Nat → Nat → Nat → List Value → Nat → List Value → List Value → AH → α) (rt : Option Value → AH → α) (no : α) (rk : Nat) (n : Nat) (ts : List Nat) (cv : Int32) (cj : Int64) (ls st : List Value) (h : AH) : α := am_ldI no (fun x => if k < ls.length then nx n (am_set1 ls k (.int (x + cv))) st h else no) ls[k]?
def am_x_iadd.{u} {α : Sort u} (nx : Nat → List Value → List Value → AH → α) (cl : Nat → Nat → Nat → List Value → Nat → List Value → List Value → AH → α) (rt : Option Value → AH → α) (no : α) (rk : Nat) (n : Nat) (ts : List Nat) (cv : Int32) (cj : Int64) (ls st : List Value) (h : AH) : α := am_i2 no (fun x y r => nx n ls (.int (x + y) :: r) h) st
def am_x_isub.{u} {α : Sort u} (nx : Nat → List Value → List Value → AH → α) (cl : Nat → Nat → Nat → List Value → Nat → List Value → List Value → AH → α) (rt : Option Value → AH → α) (no : α) (rk : Nat) (n : Nat) (ts : List Nat) (cv : Int32) (cj : Int64) (ls st : List Value) (h : AH) : α := am_i2 no (fun x y r => nx n ls (.int (x - y) :: r) h) st
def am_x_imul.{u} {α : Sort u} (nx : Nat → List Value → List Value → AH → α) (cl : Nat → Nat → Nat → List Value → Nat → List Value → List Value → AH → α) (rt : Option Value → AH → α) (no : α) (rk : Nat) (n : Nat) (ts : List Nat) (cv : Int32) (cj : Int64) (ls st : List Value) (h : AH) : α := am_i2 no (fun x y r => nx n ls (.int (x * y) :: r) h) st
def am_x_iand.{u} {α : Sort u} (nx : Nat → List Value → List Value → AH → α) (cl : Nat → Nat → Nat → List Value → Nat → List Value → List Value → AH → α) (rt : Option Value → AH → α) (no : α) (rk : Nat) (n : Nat) (ts : List Nat) (cv : Int32) (cj : Int64) (ls st : List Value) (h : AH) : α := am_i2 no (fun x y r => nx n ls (.int (x &&& y) :: r) h) st
def am_x_ior.{u} {α : Sort u} (nx : Nat → List Value → List Value → AH → α) (cl : Nat → Nat → Nat → List Value → Nat → List Value → List Value → AH → α) (rt : Option Value → AH → α) (no : α) (rk : Nat) (n : Nat) (ts : List Nat) (cv : Int32) (cj : Int64) (ls st : List Value) (h : AH) : α := am_i2 no (fun x y r => nx n ls (.int (x ||| y) :: r) h) st
def am_x_ixor.{u} {α : Sort u} (nx : Nat → List Value → List Value → AH → α) (cl : Nat → Nat → Nat → List Value → Nat → List Value → List Value → AH → α) (rt : Option Value → AH → α) (no : α) (rk : Nat) (n : Nat) (ts : List Nat) (cv : Int32) (cj : Int64) (ls st : List Value) (h : AH) : α := am_i2 no (fun x y r => nx n ls (.int (x ^^^ y) :: r) h) st
def am_x_idiv.{u} {α : Sort u} (nx : Nat → List Value → List Value → AH → α) (cl : Nat → Nat → Nat → List Value → Nat → List Value → List Value → AH → α) (rt : Option Value → AH → α) (no : α) (rk : Nat) (n : Nat) (ts : List Nat) (cv : Int32) (cj : Int64) (ls st : List Value) (h : AH) : α := am_i2 no (fun x y r => if y = 0 then no else nx n ls (.int (x / y) :: r) h) st
def am_x_irem.{u} {α : Sort u} (nx : Nat → List Value → List Value → AH → α) (cl : Nat → Nat → Nat → List Value → Nat → List Value → List Value → AH → α) (rt : Option Value → AH → α) (no : α) (rk : Nat) (n : Nat) (ts : List Nat) (cv : Int32) (cj : Int64) (ls st : List Value) (h : AH) : α := am_i2 no (fun x y r => if y = 0 then no else nx n ls (.int (x - x / y * y) :: r) h) st
def am_x_ishl.{u} {α : Sort u} (nx : Nat → List Value → List Value → AH → α) (cl : Nat → Nat → Nat → List Value → Nat → List Value → List Value → AH → α) (rt : Option Value → AH → α) (no : α) (rk : Nat) (n : Nat) (ts : List Nat) (cv : Int32) (cj : Int64) (ls st : List Value) (h : AH) : α := am_i2 no (fun x y r => nx n ls (.int (x <<< (y &&& 31)) :: r) h) st
def am_x_ishr.{u} {α : Sort u} (nx : Nat → List Value → List Value → AH → α) (cl : Nat → Nat → Nat → List Value → Nat → List Value → List Value → AH → α) (rt : Option Value → AH → α) (no : α) (rk : Nat) (n : Nat) (ts : List Nat) (cv : Int32) (cj : Int64) (ls st : List Value) (h : AH) : α := am_i2 no (fun x y r => nx n ls (.int (x >>> (y &&& 31)) :: r) h) st
def am_x_ladd.{u} {α : Sort u} (nx : Nat → List Value → List Value → AH → α) (cl : Nat → Nat → Nat → List Value → Nat → List Value → List Value → AH → α) (rt : Option Value → AH → α) (no : α) (rk : Nat) (n : Nat) (ts : List Nat) (cv : Int32) (cj : Int64) (ls st : List Value) (h : AH) : α := am_l2 no (fun x y r => nx n ls (.long (x + y) :: r) h) st
def am_x_lsub.{u} {α : Sort u} (nx : Nat → List Value → List Value → AH → α) (cl : Nat → Nat → Nat → List Value → Nat → List Value → List Value → AH → α) (rt : Option Value → AH → α) (no : α) (rk : Nat) (n : Nat) (ts : List Nat) (cv : Int32) (cj : Int64) (ls st : List Value) (h : AH) : α := am_l2 no (fun x y r => nx n ls (.long (x - y) :: r) h) st
def am_x_lmul.{u} {α : Sort u} (nx : Nat → List Value → List Value → AH → α) (cl : Nat → Nat → Nat → List Value → Nat → List Value → List Value → AH → α) (rt : Option Value → AH → α) (no : α) (rk : Nat) (n : Nat) (ts : List Nat) (cv : Int32) (cj : Int64) (ls st : List Value) (h : AH) : α := am_l2 no (fun x y r => nx n ls (.long (x * y) :: r) h) st
def am_x_land.{u} {α : Sort u} (nx : Nat → List Value → List Value → AH → α) (cl : Nat → Nat → Nat → List Value → Nat → List Value → List Value → AH → α) (rt : Option Value → AH → α) (no : α) (rk : Nat) (n : Nat) (ts : List Nat) (cv : Int32) (cj : Int64) (ls st : List Value) (h : AH) : α := am_l2 no (fun x y r => nx n ls (.long (x &&& y) :: r) h) st
def am_x_lor.{u} {α : Sort u} (nx : Nat → List Value → List Value → AH → α) (cl : Nat → Nat → Nat → List Value → Nat → List Value → List Value → AH → α) (rt : Option Value → AH → α) (no : α) (rk : Nat) (n : Nat) (ts : List Nat) (cv : Int32) (cj : Int64) (ls st : List Value) (h : AH) : α := am_l2 no (fun x y r => nx n ls (.long (x ||| y) :: r) h) st
def am_x_lxor.{u} {α : Sort u} (nx : Nat → List Value → List Value → AH → α) (cl : Nat → Nat → Nat → List Value → Nat → List Value → List Value → AH → α) (rt : Option Value → AH → α) (no : α) (rk : Nat) (n : Nat) (ts : List Nat) (cv : Int32) (cj : Int64) (ls st : List Value) (h : AH) : α := am_l2 no (fun x y r => nx n ls (.long (x ^^^ y) :: r) h) st
def am_x_ldiv.{u} {α : Sort u} (nx : Nat → List Value → List Value → AH → α) (cl : Nat → Nat → Nat → List Value → Nat → List Value → List Value → AH → α) (rt : Option Value → AH → α) (no : α) (rk : Nat) (n : Nat) (ts : List Nat) (cv : Int32) (cj : Int64) (ls st : List Value) (h : AH) : α := am_l2 no (fun x y r => if y = 0 then no else nx n ls (.long (x / y) :: r) h) st
def am_x_lrem.{u} {α : Sort u} (nx : Nat → List Value → List Value → AH → α) (cl : Nat → Nat → Nat → List Value → Nat → List Value → List Value → AH → α) (rt : Option Value → AH → α) (no : α) (rk : Nat) (n : Nat) (ts : List Nat) (cv : Int32) (cj : Int64) (ls st : List Value) (h : AH) : α := am_l2 no (fun x y r => if y = 0 then no else nx n ls (.long (x - x / y * y) :: r) h) st
def am_x_lneg.{u} {α : Sort u} (nx : Nat → List Value → List Value → AH → α) (cl : Nat → Nat → Nat → List Value → Nat → List Value → List Value → AH → α) (rt : Option Value → AH → α) (no : α) (rk : Nat) (n : Nat) (ts : List Nat) (cv : Int32) (cj : Int64) (ls st : List Value) (h : AH) : α := am_l1 no (fun x r => nx n ls (.long (-x) :: r) h) st
def am_x_lshl.{u} {α : Sort u} (nx : Nat → List Value → List Value → AH → α) (cl : Nat → Nat → Nat → List Value → Nat → List Value → List Value → AH → α) (rt : Option Value → AH → α) (no : α) (rk : Nat) (n : Nat) (ts : List Nat) (cv : Int32) (cj : Int64) (ls st : List Value) (h : AH) : α := am_li no (fun x y r => nx n ls (.long (x <<< (y.toInt64 &&& 63)) :: r) h) st
def am_x_lushr.{u} {α : Sort u} (nx : Nat → List Value → List Value → AH → α) (cl : Nat → Nat → Nat → List Value → Nat → List Value → List Value → AH → α) (rt : Option Value → AH → α) (no : α) (rk : Nat) (n : Nat) (ts : List Nat) (cv : Int32) (cj : Int64) (ls st : List Value) (h : AH) : α := am_li no (fun x y r => nx n ls (.long ((x.toUInt64 >>> (y.toInt64.toUInt64 &&& Int64.toUInt64 63)).toInt64) :: r) h) st
def am_x_lcmp.{u} {α : Sort u} (nx : Nat → List Value → List Value → AH → α) (cl : Nat → Nat → Nat → List Value → Nat → List Value → List Value → AH → α) (rt : Option Value → AH → α) (no : α) (rk : Nat) (n : Nat) (ts : List Nat) (cv : Int32) (cj : Int64) (ls st : List Value) (h : AH) : α := am_l2 no (fun x y r => nx n ls (.int (lg_cmp x y) :: r) h) st
def am_x_i2l.{u} {α : Sort u} (nx : Nat → List Value → List Value → AH → α) (cl : Nat → Nat → Nat → List Value → Nat → List Value → List Value → AH → α) (rt : Option Value → AH → α) (no : α) (rk : Nat) (n : Nat) (ts : List Nat) (cv : Int32) (cj : Int64) (ls st : List Value) (h : AH) : α := am_i1 no (fun x r => nx n ls (.long x.toInt64 :: r) h) st
def am_x_l2i.{u} {α : Sort u} (nx : Nat → List Value → List Value → AH → α) (cl : Nat → Nat → Nat → List Value → Nat → List Value → List Value → AH → α) (rt : Option Value → AH → α) (no : α) (rk : Nat) (n : Nat) (ts : List Nat) (cv : Int32) (cj : Int64) (ls st : List Value) (h : AH) : α := am_l1 no (fun x r => nx n ls (.int x.toInt32 :: r) h) st
def am_x_i2c.{u} {α : Sort u} (nx : Nat → List Value → List Value → AH → α) (cl : Nat → Nat → Nat → List Value → Nat → List Value → List Value → AH → α) (rt : Option Value → AH → α) (no : α) (rk : Nat) (n : Nat) (ts : List Nat) (cv : Int32) (cj : Int64) (ls st : List Value) (h : AH) : α := am_i1 no (fun x r => nx n ls (.int (x.toUInt32 % 65536).toInt32 :: r) h) st
def am_x_dup.{u} {α : Sort u} (nx : Nat → List Value → List Value → AH → α) (cl : Nat → Nat → Nat → List Value → Nat → List Value → List Value → AH → α) (rt : Option Value → AH → α) (no : α) (rk : Nat) (n : Nat) (ts : List Nat) (cv : Int32) (cj : Int64) (ls st : List Value) (h : AH) : α := am_v1 no (fun v r => nx n ls (v :: v :: r) h) st
def am_x_dup2.{u} {α : Sort u} (nx : Nat → List Value → List Value → AH → α) (cl : Nat → Nat → Nat → List Value → Nat → List Value → List Value → AH → α) (rt : Option Value → AH → α) (no : α) (rk : Nat) (n : Nat) (ts : List Nat) (cv : Int32) (cj : Int64) (ls st : List Value) (h : AH) : α := am_v2 no (fun v w r => nx n ls (v :: w :: v :: w :: r) h) st
def am_x_ifCond_eq.{u} {α : Sort u} (nx : Nat → List Value → List Value → AH → α) (cl : Nat → Nat → Nat → List Value → Nat → List Value → List Value → AH → α) (rt : Option Value → AH → α) (no : α) (rk : Nat) (n : Nat) (ts : List Nat) (cv : Int32) (cj : Int64) (ls st : List Value) (h : AH) : α := match ts with
    | [t] => am_i1 no (fun x r => if x = 0 then nx t ls r h else nx n ls r h) st
    | _ => no
def am_x_ifCond_ne.{u} {α : Sort u} (nx : Nat → List Value → List Value → AH → α) (cl : Nat → Nat → Nat → List Value → Nat → List Value → List Value → AH → α) (rt : Option Value → AH → α) (no : α) (rk : Nat) (n : Nat) (ts : List Nat) (cv : Int32) (cj : Int64) (ls st : List Value) (h : AH) : α := match ts with
    | [t] => am_i1 no (fun x r => if x = 0 then nx n ls r h else nx t ls r h) st
    | _ => no
def am_x_ifCond_lt.{u} {α : Sort u} (nx : Nat → List Value → List Value → AH → α) (cl : Nat → Nat → Nat → List Value → Nat → List Value → List Value → AH → α) (rt : Option Value → AH → α) (no : α) (rk : Nat) (n : Nat) (ts : List Nat) (cv : Int32) (cj : Int64) (ls st : List Value) (h : AH) : α := match ts with
    | [t] => am_i1 no (fun x r => if x < 0 then nx t ls r h else nx n ls r h) st
    | _ => no
def am_x_ifCond_ge.{u} {α : Sort u} (nx : Nat → List Value → List Value → AH → α) (cl : Nat → Nat → Nat → List Value → Nat → List Value → List Value → AH → α) (rt : Option Value → AH → α) (no : α) (rk : Nat) (n : Nat) (ts : List Nat) (cv : Int32) (cj : Int64) (ls st : List Value) (h : AH) : α := match ts with
    | [t] => am_i1 no (fun x r => if x < 0 then nx n ls r h else nx t ls r h) st
    | _ => no
def am_x_ifCond_gt.{u} {α : Sort u} (nx : Nat → List Value → List Value → AH → α) (cl : Nat → Nat → Nat → List Value → Nat → List Value → List Value → AH → α) (rt : Option Value → AH → α) (no : α) (rk : Nat) (n : Nat) (ts : List Nat) (cv : Int32) (cj : Int64) (ls st : List Value) (h : AH) : α := match ts with
    | [t] => am_i1 no (fun x r => if 0 < x then nx t ls r h else nx n ls r h) st
    | _ => no
def am_x_ifCond_le.{u} {α : Sort u} (nx : Nat → List Value → List Value → AH → α) (cl : Nat → Nat → Nat → List Value → Nat → List Value → List Value → AH → α) (rt : Option Value → AH → α) (no : α) (rk : Nat) (n : Nat) (ts : List Nat) (cv : Int32) (cj : Int64) (ls st : List Value) (h : AH) : α := match ts with
    | [t] => am_i1 no (fun x r => if 0 < x then nx n ls r h else nx t ls r h) st
    | _ => no
def am_x_if_icmp_eq.{u} {α : Sort u} (nx : Nat → List Value → List Value → AH → α) (cl : Nat → Nat → Nat → List Value → Nat → List Value → List Value → AH → α) (rt : Option Value → AH → α) (no : α) (rk : Nat) (n : Nat) (ts : List Nat) (cv : Int32) (cj : Int64) (ls st : List Value) (h : AH) : α := match ts with
    | [t] => am_i2 no (fun x y r => if x = y then nx t ls r h else nx n ls r h) st
    | _ => no
def am_x_if_icmp_ne.{u} {α : Sort u} (nx : Nat → List Value → List Value → AH → α) (cl : Nat → Nat → Nat → List Value → Nat → List Value → List Value → AH → α) (rt : Option Value → AH → α) (no : α) (rk : Nat) (n : Nat) (ts : List Nat) (cv : Int32) (cj : Int64) (ls st : List Value) (h : AH) : α := match ts with
    | [t] => am_i2 no (fun x y r => if x = y then nx n ls r h else nx t ls r h) st
    | _ => no
def am_x_if_icmp_lt.{u} {α : Sort u} (nx : Nat → List Value → List Value → AH → α) (cl : Nat → Nat → Nat → List Value → Nat → List Value → List Value → AH → α) (rt : Option Value → AH → α) (no : α) (rk : Nat) (n : Nat) (ts : List Nat) (cv : Int32) (cj : Int64) (ls st : List Value) (h : AH) : α := match ts with
    | [t] => am_i2 no (fun x y r => if x < y then nx t ls r h else nx n ls r h) st
    | _ => no
def am_x_if_icmp_ge.{u} {α : Sort u} (nx : Nat → List Value → List Value → AH → α) (cl : Nat → Nat → Nat → List Value → Nat → List Value → List Value → AH → α) (rt : Option Value → AH → α) (no : α) (rk : Nat) (n : Nat) (ts : List Nat) (cv : Int32) (cj : Int64) (ls st : List Value) (h : AH) : α := match ts with
    | [t] => am_i2 no (fun x y r => if x < y then nx n ls r h else nx t ls r h) st
    | _ => no
def am_x_if_icmp_gt.{u} {α : Sort u} (nx : Nat → List Value → List Value → AH → α) (cl : Nat → Nat → Nat → List Value → Nat → List Value → List Value → AH → α) (rt : Option Value → AH → α) (no : α) (rk : Nat) (n : Nat) (ts : List Nat) (cv : Int32) (cj : Int64) (ls st : List Value) (h : AH) : α := match ts with
    | [t] => am_i2 no (fun x y r => if y < x then nx t ls r h else nx n ls r h) st
    | _ => no
def am_x_if_icmp_le.{u} {α : Sort u} (nx : Nat → List Value → List Value → AH → α) (cl : Nat → Nat → Nat → List Value → Nat → List Value → List Value → AH → α) (rt : Option Value → AH → α) (no : α) (rk : Nat) (n : Nat) (ts : List Nat) (cv : Int32) (cj : Int64) (ls st : List Value) (h : AH) : α := match ts with
    | [t] => am_i2 no (fun x y r => if y < x then nx n ls r h else nx t ls r h) st
    | _ => no
def am_x_ifnonnull.{u} {α : Sort u} (nx : Nat → List Value → List Value → AH → α) (cl : Nat → Nat → Nat → List Value → Nat → List Value → List Value → AH → α) (rt : Option Value → AH → α) (no : α) (rk : Nat) (n : Nat) (ts : List Nat) (cv : Int32) (cj : Int64) (ls st : List Value) (h : AH) : α := match ts with
    | [t] => am_o1 no (fun o r => am_oe o (nx n ls r h) (fun _ => nx t ls r h)) st
    | _ => no
def am_x_goto.{u} {α : Sort u} (nx : Nat → List Value → List Value → AH → α) (cl : Nat → Nat → Nat → List Value → Nat → List Value → List Value → AH → α) (rt : Option Value → AH → α) (no : α) (rk : Nat) (n : Nat) (ts : List Nat) (cv : Int32) (cj : Int64) (ls st : List Value) (h : AH) : α := match ts with
    | [t] => nx t ls st h
    | _ => no
def am_x_tableswitch.{u} {α : Sort u} (nx : Nat → List Value → List Value → AH → α) (cl : Nat → Nat → Nat → List Value → Nat → List Value → List Value → AH → α) (rt : Option Value → AH → α) (no : α) (rk : Nat) (n : Nat) (ts : List Nat) (cv : Int32) (cj : Int64) (ls st : List Value) (h : AH) : α := match ts with
    | k :: d :: r0 => am_i1 no (fun x r => am_sw (fun p => nx p ls r h) x d k r0) st
    | _ => no
def am_x_getfield.{u} {α : Sort u} (nx : Nat → List Value → List Value → AH → α) (cl : Nat → Nat → Nat → List Value → Nat → List Value → List Value → AH → α) (rt : Option Value → AH → α) (no : α) (rk : Nat) (n : Nat) (ts : List Nat) (cv : Int32) (cj : Int64) (ls st : List Value) (h : AH) : α := match ts with
    | [ci, k, 1] => am_r1 no (fun a r => if am_kd h a = ci then am_oe (am_R h a k) (nx n ls (.null :: r) h) (fun b => nx n ls (.ref b :: r) h) else no) st
    | [ci, k, _] => am_r1 no (fun a r => if am_kd h a = ci then nx n ls (.int (am_I h a k) :: r) h else no) st
    | _ => no
def am_x_putfield.{u} {α : Sort u} (nx : Nat → List Value → List Value → AH → α) (cl : Nat → Nat → Nat → List Value → Nat → List Value → List Value → AH → α) (rt : Option Value → AH → α) (no : α) (rk : Nat) (n : Nat) (ts : List Nat) (cv : Int32) (cj : Int64) (ls st : List Value) (h : AH) : α := match ts with
    | [ci, k, 1] => am_rr no (fun a o r => if am_kd h a = ci then nx n ls r (am_sR h a k o) else no) st
    | [ci, k, 2] => am_ri no (fun a x r => if am_kd h a = ci then (if x = 0 ∨ x = 1 then nx n ls r (am_sI h a k x) else no) else no) st
    | [ci, k, 0] => am_ri no (fun a x r => if am_kd h a = ci then nx n ls r (am_sI h a k x) else no) st
    | _ => no
def am_x_new.{u} {α : Sort u} (nx : Nat → List Value → List Value → AH → α) (cl : Nat → Nat → Nat → List Value → Nat → List Value → List Value → AH → α) (rt : Option Value → AH → α) (no : α) (rk : Nat) (n : Nat) (ts : List Nat) (cv : Int32) (cj : Int64) (ls st : List Value) (h : AH) : α := match ts with
    | [ci, nf] => nx n ls (.ref h.1.length :: st) (am_nw h ci nf)
    | _ => no
def am_x_newarray.{u} {α : Sort u} (nx : Nat → List Value → List Value → AH → α) (cl : Nat → Nat → Nat → List Value → Nat → List Value → List Value → AH → α) (rt : Option Value → AH → α) (no : α) (rk : Nat) (n : Nat) (ts : List Nat) (cv : Int32) (cj : Int64) (ls st : List Value) (h : AH) : α := match ts with
    | [k] => am_i1 no (fun x r => if x < 0 ∨ 1000 < x.toNatClampNeg then no else nx n ls (.ref h.1.length :: r) (am_nw h k x.toNatClampNeg)) st
    | _ => no
def am_x_anewarray.{u} {α : Sort u} (nx : Nat → List Value → List Value → AH → α) (cl : Nat → Nat → Nat → List Value → Nat → List Value → List Value → AH → α) (rt : Option Value → AH → α) (no : α) (rk : Nat) (n : Nat) (ts : List Nat) (cv : Int32) (cj : Int64) (ls st : List Value) (h : AH) : α := am_i1 no (fun x r => if x < 0 ∨ 1000 < x.toNatClampNeg then no else nx n ls (.ref h.1.length :: r) (am_nw h 8 x.toNatClampNeg)) st
def am_x_arraylength.{u} {α : Sort u} (nx : Nat → List Value → List Value → AH → α) (cl : Nat → Nat → Nat → List Value → Nat → List Value → List Value → AH → α) (rt : Option Value → AH → α) (no : α) (rk : Nat) (n : Nat) (ts : List Nat) (cv : Int32) (cj : Int64) (ls st : List Value) (h : AH) : α := am_r1 no (fun a r => if 5 ≤ am_kd h a ∧ am_kd h a ≤ 9 then nx n ls (.int (Int32.ofNat (am_ln h a)) :: r) h else no) st
def am_x_iaload.{u} {α : Sort u} (nx : Nat → List Value → List Value → AH → α) (cl : Nat → Nat → Nat → List Value → Nat → List Value → List Value → AH → α) (rt : Option Value → AH → α) (no : α) (rk : Nat) (n : Nat) (ts : List Nat) (cv : Int32) (cj : Int64) (ls st : List Value) (h : AH) : α := am_ai no (fun a x r => if (am_kd h a = 5 ∨ am_kd h a = 9) ∧ ¬ (x < 0 ∨ am_ln h a ≤ x.toNatClampNeg) then nx n ls (.int (am_I h a x.toNatClampNeg) :: r) h else no) st
def am_x_laload.{u} {α : Sort u} (nx : Nat → List Value → List Value → AH → α) (cl : Nat → Nat → Nat → List Value → Nat → List Value → List Value → AH → α) (rt : Option Value → AH → α) (no : α) (rk : Nat) (n : Nat) (ts : List Nat) (cv : Int32) (cj : Int64) (ls st : List Value) (h : AH) : α := am_ai no (fun a x r => if am_kd h a = 6 ∧ ¬ (x < 0 ∨ am_ln h a ≤ x.toNatClampNeg) then nx n ls (.long (am_J h a x.toNatClampNeg) :: r) h else no) st
def am_x_caload.{u} {α : Sort u} (nx : Nat → List Value → List Value → AH → α) (cl : Nat → Nat → Nat → List Value → Nat → List Value → List Value → AH → α) (rt : Option Value → AH → α) (no : α) (rk : Nat) (n : Nat) (ts : List Nat) (cv : Int32) (cj : Int64) (ls st : List Value) (h : AH) : α := am_ai no (fun a x r => if am_kd h a = 7 ∧ ¬ (x < 0 ∨ am_ln h a ≤ x.toNatClampNeg) then nx n ls (.int (am_I h a x.toNatClampNeg) :: r) h else no) st
def am_x_aaload.{u} {α : Sort u} (nx : Nat → List Value → List Value → AH → α) (cl : Nat → Nat → Nat → List Value → Nat → List Value → List Value → AH → α) (rt : Option Value → AH → α) (no : α) (rk : Nat) (n : Nat) (ts : List Nat) (cv : Int32) (cj : Int64) (ls st : List Value) (h : AH) : α := am_ai no (fun a x r => if am_kd h a = 8 ∧ ¬ (x < 0 ∨ am_ln h a ≤ x.toNatClampNeg) then am_oe (am_R h a x.toNatClampNeg) (nx n ls (.null :: r) h) (fun b => nx n ls (.ref b :: r) h) else no) st
def am_x_iastore.{u} {α : Sort u} (nx : Nat → List Value → List Value → AH → α) (cl : Nat → Nat → Nat → List Value → Nat → List Value → List Value → AH → α) (rt : Option Value → AH → α) (no : α) (rk : Nat) (n : Nat) (ts : List Nat) (cv : Int32) (cj : Int64) (ls st : List Value) (h : AH) : α := am_aii no (fun a x v r => if am_kd h a = 5 ∧ ¬ (x < 0 ∨ am_ln h a ≤ x.toNatClampNeg) then nx n ls r (am_sI h a x.toNatClampNeg v) else no) st
def am_x_lastore.{u} {α : Sort u} (nx : Nat → List Value → List Value → AH → α) (cl : Nat → Nat → Nat → List Value → Nat → List Value → List Value → AH → α) (rt : Option Value → AH → α) (no : α) (rk : Nat) (n : Nat) (ts : List Nat) (cv : Int32) (cj : Int64) (ls st : List Value) (h : AH) : α := am_ail no (fun a x v r => if am_kd h a = 6 ∧ ¬ (x < 0 ∨ am_ln h a ≤ x.toNatClampNeg) then nx n ls r (am_sJ h a x.toNatClampNeg v) else no) st
def am_x_castore.{u} {α : Sort u} (nx : Nat → List Value → List Value → AH → α) (cl : Nat → Nat → Nat → List Value → Nat → List Value → List Value → AH → α) (rt : Option Value → AH → α) (no : α) (rk : Nat) (n : Nat) (ts : List Nat) (cv : Int32) (cj : Int64) (ls st : List Value) (h : AH) : α := am_aii no (fun a x v r => if am_kd h a = 7 ∧ ¬ (x < 0 ∨ am_ln h a ≤ x.toNatClampNeg) then nx n ls r (am_sI h a x.toNatClampNeg v.toUInt32.toUInt16.toUInt32.toInt32) else no) st
def am_x_aastore.{u} {α : Sort u} (nx : Nat → List Value → List Value → AH → α) (cl : Nat → Nat → Nat → List Value → Nat → List Value → List Value → AH → α) (rt : Option Value → AH → α) (no : α) (rk : Nat) (n : Nat) (ts : List Nat) (cv : Int32) (cj : Int64) (ls st : List Value) (h : AH) : α := am_air no (fun a x o r => if am_kd h a = 8 ∧ ¬ (x < 0 ∨ am_ln h a ≤ x.toNatClampNeg) then am_oe o (nx n ls r (am_sR h a x.toNatClampNeg none)) (fun b => if am_kd h b = 2 then nx n ls r (am_sR h a x.toNatClampNeg (some b)) else no) else no) st
def am_x_inv.{u} {α : Sort u} (nx : Nat → List Value → List Value → AH → α) (cl : Nat → Nat → Nat → List Value → Nat → List Value → List Value → AH → α) (rt : Option Value → AH → α) (no : α) (rk : Nat) (n : Nat) (ts : List Nat) (cv : Int32) (cj : Int64) (ls st : List Value) (h : AH) : α := am_inv nx cl no n ts ls st h
def am_x_ireturn.{u} {α : Sort u} (nx : Nat → List Value → List Value → AH → α) (cl : Nat → Nat → Nat → List Value → Nat → List Value → List Value → AH → α) (rt : Option Value → AH → α) (no : α) (rk : Nat) (n : Nat) (ts : List Nat) (cv : Int32) (cj : Int64) (ls st : List Value) (h : AH) : α := match st with
    | [.int x] => match rk with
      | 1 => rt (some (.int x)) h
      | 2 => if x = 0 ∨ x = 1 then rt (some (.int x)) h else no
      | _ => no
    | _ => no
def am_x_lreturn.{u} {α : Sort u} (nx : Nat → List Value → List Value → AH → α) (cl : Nat → Nat → Nat → List Value → Nat → List Value → List Value → AH → α) (rt : Option Value → AH → α) (no : α) (rk : Nat) (n : Nat) (ts : List Nat) (cv : Int32) (cj : Int64) (ls st : List Value) (h : AH) : α := match st with
    | [.long x] => match rk with
      | 3 => rt (some (.long x)) h
      | _ => no
    | _ => no
def am_x_areturn.{u} {α : Sort u} (nx : Nat → List Value → List Value → AH → α) (cl : Nat → Nat → Nat → List Value → Nat → List Value → List Value → AH → α) (rt : Option Value → AH → α) (no : α) (rk : Nat) (n : Nat) (ts : List Nat) (cv : Int32) (cj : Int64) (ls st : List Value) (h : AH) : α := match st with
    | [.ref a] => match rk with
      | 4 => rt (some (.ref a)) h
      | _ => no
    | _ => no
def am_x_return_.{u} {α : Sort u} (nx : Nat → List Value → List Value → AH → α) (cl : Nat → Nat → Nat → List Value → Nat → List Value → List Value → AH → α) (rt : Option Value → AH → α) (no : α) (rk : Nat) (n : Nat) (ts : List Nat) (cv : Int32) (cj : Int64) (ls st : List Value) (h : AH) : α := match st with
    | [] => match rk with
      | 0 => rt none h
      | _ => no
    | _ => no
def am_x_no.{u} {α : Sort u} (nx : Nat → List Value → List Value → AH → α) (cl : Nat → Nat → Nat → List Value → Nat → List Value → List Value → AH → α) (rt : Option Value → AH → α) (no : α) (rk : Nat) (n : Nat) (ts : List Nat) (cv : Int32) (cj : Int64) (ls st : List Value) (h : AH) : α := no
def am_sel.{u} {α : Sort u} (i : Instr) : (Nat → List Value → List Value → AH → α) → (Nat → Nat → Nat → List Value → Nat → List Value → List Value → AH → α) → (Option Value → AH → α) → α → Nat → Nat → List Nat → Int32 → Int64 → List Value → List Value → AH → α := match i with
  | .iconst _ => am_x_cI
  | .bipush _ => am_x_cI
  | .sipush _ => am_x_cI
  | .ldc _ => am_x_cI
  | .ldc2_w _ => am_x_cJ
  | .lconst _ => am_x_cJ
  | .aconst_null => am_x_aconst_null
  | .iload k => am_x_iload k
  | .iload_n k => am_x_iload k
  | .lload k => am_x_lload k
  | .lload_n k => am_x_lload k
  | .aload k => am_x_aload k
  | .aload_n k => am_x_aload k
  | .istore k => am_x_istore k
  | .istore_n k => am_x_istore k
  | .lstore k => am_x_lstore k
  | .lstore_n k => am_x_lstore k
  | .astore k => am_x_astore k
  | .astore_n k => am_x_astore k
  | .iinc k _ => am_x_iinc k
  | .iadd => am_x_iadd
  | .isub => am_x_isub
  | .imul => am_x_imul
  | .iand => am_x_iand
  | .ior => am_x_ior
  | .ixor => am_x_ixor
  | .idiv => am_x_idiv
  | .irem => am_x_irem
  | .ishl => am_x_ishl
  | .ishr => am_x_ishr
  | .ladd => am_x_ladd
  | .lsub => am_x_lsub
  | .lmul => am_x_lmul
  | .land => am_x_land
  | .lor => am_x_lor
  | .lxor => am_x_lxor
  | .ldiv => am_x_ldiv
  | .lrem => am_x_lrem
  | .lneg => am_x_lneg
  | .lshl => am_x_lshl
  | .lushr => am_x_lushr
  | .lcmp => am_x_lcmp
  | .i2l => am_x_i2l
  | .l2i => am_x_l2i
  | .i2c => am_x_i2c
  | .dup => am_x_dup
  | .dup2 => am_x_dup2
  | .ifCond .eq _ => am_x_ifCond_eq
  | .ifCond .ne _ => am_x_ifCond_ne
  | .ifCond .lt _ => am_x_ifCond_lt
  | .ifCond .ge _ => am_x_ifCond_ge
  | .ifCond .gt _ => am_x_ifCond_gt
  | .ifCond .le _ => am_x_ifCond_le
  | .if_icmp .eq _ => am_x_if_icmp_eq
  | .if_icmp .ne _ => am_x_if_icmp_ne
  | .if_icmp .lt _ => am_x_if_icmp_lt
  | .if_icmp .ge _ => am_x_if_icmp_ge
  | .if_icmp .gt _ => am_x_if_icmp_gt
  | .if_icmp .le _ => am_x_if_icmp_le
  | .ifnonnull _ => am_x_ifnonnull
  | .goto _ => am_x_goto
  | .tableswitch .. => am_x_tableswitch
  | .getfield _ => am_x_getfield
  | .putfield _ => am_x_putfield
  | .new _ => am_x_new
  | .newarray _ => am_x_newarray
  | .anewarray _ => am_x_anewarray
  | .arraylength => am_x_arraylength
  | .iaload => am_x_iaload
  | .laload => am_x_laload
  | .caload => am_x_caload
  | .aaload => am_x_aaload
  | .iastore => am_x_iastore
  | .lastore => am_x_lastore
  | .castore => am_x_castore
  | .aastore => am_x_aastore
  | .invokevirtual _ => am_x_inv
  | .invokespecial _ => am_x_inv
  | .invokestatic _ => am_x_inv
  | .ireturn => am_x_ireturn
  | .lreturn => am_x_lreturn
  | .areturn => am_x_areturn
  | .return_ => am_x_return_
  | _ => am_x_no
end ops
def am_exe.{u} {α : Sort u} (nx : Nat → List Value → List Value → AH → α) (cl : Nat → Nat → Nat → List Value → Nat → List Value → List Value → AH → α) (rt : Option Value → AH → α) (no : α) (rk : Nat) (i : Instr) (n : Nat) (ts : List Nat) (cv : Int32) (cj : Int64) (ls st : List Value) (h : AH) : α := am_sel i nx cl rt no rk n ts cv cj ls st h
def am_entry (nL : Nat) (as : List Value) : List Value := am_pad as ++ List.replicate (nL - (am_pad as).length) am_ph
def am_clr : List Nat → List Value → List Value
  | [], ls => ls
  | k :: r, ls => am_clr r (ls.set k am_ph)
def am_fg : List (Nat × List Nat) → Nat → List Value → List Value
  | [], _, ls => ls
  | q :: r, pc, ls => bif Nat.beq q.1 pc then am_clr q.2 ls else am_fg r pc ls
def am_bV (x : AR) (f : AH → AR) : AR := match x with
  | some (none, h) => f h
  | _ => none
def am_bI (x : AR) (f : Int32 → AH → AR) : AR := match x with
  | some (some (.int v), h) => f v h
  | _ => none
def am_bJ (x : AR) (f : Int64 → AH → AR) : AR := match x with
  | some (some (.long v), h) => f v h
  | _ => none
def am_bA (x : AR) (f : Nat → AH → AR) : AR := match x with
  | some (some (.ref v), h) => f v h
  | _ => none
/-- what a callee came to, and what comes of it -/
def am_bd (rk : Nat) (x : AR) (f : List Value → AH → AR) : AR := match rk with
  | 0 => am_bV x (fun h => f [] h)
  | 1 => am_bI x (fun v h => f [.int v] h)
  | 2 => am_bI x (fun v h => f [.int v] h)
  | 3 => am_bJ x (fun v h => f [.long v] h)
  | 4 => am_bA x (fun v h => f [.ref v] h)
  | _ => none
def am_runP (M : Nat → AMe) : Nat → Nat → Nat → List Value → List Value → AH → AR
  | 0, _, _, _, _, _ => none
  | n + 1, mi, pc, ls, st, h => match am_fetch (M mi).1 pc with
    | none => none
    | some q => am_exe (fun pc ls st h => am_runP M n mi pc (am_fg (M mi).2.2.2 pc ls) st h)
        (fun mi' rk nL as pc ls st h => am_bd rk (am_runP M n mi' 0 (am_entry nL as) [] h) fun vs h => am_runP M n mi pc (am_fg (M mi).2.2.2 pc ls) (vs ++ st) h)
        (fun v h => some (v, h)) none (M mi).2.2.1 q.2.1 q.2.2.1 q.2.2.2.1 q.2.2.2.2.1 q.2.2.2.2.2 ls st h
